theorem n187 : nC 187 0 = true ∧ rC 188 = true := by decide +kernel
/-- the sorts laid out -/
def SO (m : jm_M) (cn : Nat) (sg : Nat → Int) (S w h : Nat) : Prop := ∀ j, j < cn → m 188 j = ((if 48 ≤ sg j ∧ sg j ≤ 55 then soO S w h sg j else 0 : Nat) : Int)
theorem s_study {N t cn : Nat} {sg : Nat → Int} {S w h : Nat} {m : jm_M} (hN : 100 ≤ N) (ht : t ∈ tL) (hF : CF m) (hX : TX cn sg) (hC : CT m t cn sg) (hT : ST S w h) (hS : GS m S w h) : ∃ M, f_X2_study N shC 187 t m = some M ∧ CF M ∧ AW M (pa S w h sg 4 0 (inA S w h, fun _ => none)) ∧ SO M cn sg S w h ∧ M 187 0 = (t : Int) ∧ ∀ a, a < 142 ∨ 188 < a → ∀ j, M a j = m a j := by
  have htl := tL_lt t ht
  have hcn := hX.1
  generalize hm1 : jm_up m 187 0 (t : Int) = m1
  have k1 : ∀ a, a ≠ 187 → ∀ j, m1 a j = m a j := fun a ha j => by rw [← hm1]; exact up_ne ha
  have hF1 : CF m1 := by rw [← hm1]; exact hF.up n187.1
  have hC1 : CT m1 t cn sg := hC.same (fun a h1 h2 j => k1 a (by omega) j)
  have hS1 : GS m1 S w h := ⟨by rw [k1 3 (by decide)]; exact hS.1, by rw [k1 3 (by decide)]; exact hS.2.1, by rw [k1 3 (by decide)]; exact hS.2.2⟩
  obtain ⟨M0, e0, cf0, aw0, f0⟩ := s_trace hN ht hF1 hX hC1 hT hS1
  have h0 : M0 187 0 = (t : Int) := by rw [f0 187 (by omega), ← hm1]; exact up_eq
  have hC0 : CT M0 t cn sg := hC1.same (fun a h1 h2 j => f0 a (by omega) j)
  have hS0 : GS M0 S w h := ⟨by rw [f0 3 (by omega)]; exact hS1.1, by rw [f0 3 (by omega)]; exact hS1.2.1, by rw [f0 3 (by omega)]; exact hS1.2.2⟩
  have t1 := (tC hF t ht).1
  obtain ⟨M, n', e, q⟩ := loopN (fun n k m => f_X2_study_l15 N shC n 187 t k m) cn (fun x M => (∀ j, j < x → M 188 j = ((if 48 ≤ sg j ∧ sg j ≤ 55 then soO S w h sg j else 0 : Nat) : Int)) ∧ ∀ c, c ≠ 188 → ∀ j, M c j = M0 c j) (fun n x M hx hI => by
    have cf : CF M := cf0.row n187.2 hI.2
    have hCM : CT M t cn sg := hC0.same (fun a h1 h2 j => hI.2 a (by omega) j)
    have hSM : GS M S w h := ⟨by rw [hI.2 3 (by omega)]; exact hS0.1, by rw [hI.2 3 (by omega)]; exact hS0.2.1, by rw [hI.2 3 (by omega)]; exact hS0.2.2⟩
    have h0M : M 187 0 = (t : Int) := by rw [hI.2 187 (by decide)]; exact h0
    have awM := aw0.same (M := M) (fun a h1 h2 j => hI.2 a (by omega) j)
    refine ⟨jm_up M 188 x ((if 48 ≤ sg x ∧ sg x ≤ 55 then soO S w h sg x else 0 : Nat) : Int), ?_, fun j hj => ?_, fun c hc j => (up_ne hc).trans (hI.2 c hc j)⟩
    · show f_X2_study_b15 N shC (f_X2_study_l15 N shC n) 187 t (x : Int) M = _
      unfold f_X2_study_b15 f_X2_study_b54
      rw [jrf_ok t1, Option.bind_some, hCM.1, if_pos (by omega), jrf_ok sC187, Option.bind_some, cf.t187_3, jlen_ok sC188 (by decide) (by decide) (by decide), Option.bind_some, if_pos (by omega), Option.bind_some, cf.t187_3, jck_ok t1, Option.bind_some, s_isFetch cf ht hCM hcn hx, Option.bind_some, ifb, jw_succ (by omega)]
      by_cases c : 48 ≤ sg x ∧ sg x ≤ 55
      · rw [if_pos c, if_pos c, jck_ok sC187, Option.bind_some, s_sortOf hN ht cf hX hCM hT hSM h0M awM hx c, Option.bind_some, jwa_ok sC188 (by omega) (by omega), Option.bind_some, Int.toNat_natCast]
      · rw [if_neg c, if_neg c, jwa_ok sC188 (by omega) (by omega), Option.bind_some, Int.toNat_natCast]
        rfl
    · by_cases c : j = x
      · rw [c]; exact up_eq
      · rw [up_nk c]; exact hI.1 j (by omega)) 0 N M0 (by omega) (by omega) ⟨fun j hj => by omega, fun _ _ _ => rfl⟩
  have e : f_X2_study_l15 N shC N 187 t 0 M0 = f_X2_study_l15 N shC (n' + 1) 187 t (cn : Int) M := e
  have cf : CF M := cf0.row n187.2 q.2
  refine ⟨M, ?_, cf, aw0.same (fun a h1 h2 j => q.2 a (by omega) j), q.1, by rw [q.2 187 (by decide)]; exact h0, fun a ha j => by rw [q.2 a (by omega), f0 a (by omega), k1 a (by omega)]⟩
  unfold f_X2_study
  rw [jwr_ok sC187 (by omega), Option.bind_some, hm1, jrf_ok sC187, Option.bind_some, hF1.t187_2, jck_ok sC142, Option.bind_some, e0, Option.bind_some, e]
  show f_X2_study_b15 N shC (f_X2_study_l15 N shC n') 187 t (cn : Int) M = _
  unfold f_X2_study_b15
  have hcM : M t 0 = (cn : Int) := by rw [q.2 t (by omega)]; exact hC0.1
  rw [jrf_ok t1, Option.bind_some, hcM, if_neg (by omega)]
theorem op_sort : jOp_sort jN shC shM Inv := by
  intro mC mM x1 x2 hx1 hx2 hI
  obtain ⟨A, hV, hC, hM⟩ := id hI
  obtain ⟨hF, hRR, hK⟩ := id hC
  obtain ⟨hFM, hKM⟩ := id hM
  have hJ := jN_huge
  have fC := s_isFetch2 (x1 := x1) (x2 := x2) hF hV.1 hK.1
  have fM := sM_isFetch2 (x1 := x1) (x2 := x2) hFM hV.1 hKM.1
  by_cases c0 : ftO A.1 x1 x2
  · have fC := fC.1 c0
    have fM := fM.1 c0
    obtain ⟨h1, h2, h3⟩ := c0
    obtain ⟨p, rfl⟩ : ∃ p : Nat, x1 = p := ⟨x1.toNat, by omega⟩
    obtain ⟨i, rfl⟩ : ∃ i : Nat, x2 = i := ⟨x2.toNat, by omega⟩
    rw [Int.toNat_natCast] at h2 h3
    rw [Int.toNat_natCast] at h3
    have hp : p < 4 := by omega
    have ht := tL_of two_bL hp
    have hX := hV.1.2.1 p hp
    have hcn := hX.1
    obtain ⟨S, w, h, ms, s0, s1, s2, s3, hT, hm1, hm2⟩ := hV.1.1.nat
    obtain ⟨q1, q2, q3⟩ := hKM.1.prog (S := S) (w := w) (h := h) (ms := ms) hp s0 s1 s2 s3
    have hG : GNa mM p (A.1.2.1 p) (A.1.2.2.1 p) S w h := ⟨hFM, q1, q3⟩
    obtain ⟨M, e, cf, aw, so, -, f⟩ := s_study (N := jN) (by omega) ht hF hX (hK.1.2.1 p hp) hT (⟨by rw [hK.1.1 0 (by decide)]; exact s0, by rw [hK.1.1 1 (by decide)]; exact s1, by rw [hK.1.1 3 (by decide)]; exact s3⟩ : GS mC S w h)
    obtain ⟨M', e', mf, am, f'⟩ := sM_layAges (N := jN) hJ hp hT hX hG
    have hIn : Inv M M' := ⟨A, hV, hC.keep (fun a ha => f a (by omega)) cf (fun r hr => (hRR r hr).same (fun a h1 h2 j => f a (by have := rr_ge r hr; omega) j)), f'.IM hM mf⟩
    refine ⟨(soO S w h (A.1.2.2.1 p) i : Int), M, M', ?_, ?_, hIn⟩
    · unfold f_X11_sort
      rw [jck_ok sC1, Option.bind_some, fC, Option.bind_some, if_neg (by decide), jrf_ok sC1, Option.bind_some, jrf_ok sC1, Option.bind_some, hF.t1_0, hF.t1_8, jck_ok sC2, Option.bind_some, s_textOf hF two_bL hp, Option.bind_some, jck_ok sC187, Option.bind_some, e, Option.bind_some, jrf_ok sC1, Option.bind_some, cf.t1_8, jck_ok sC187, Option.bind_some]
      unfold f_X2_sortAt
      rw [if_neg (by omega), jrf_ok sC187, Option.bind_some, cf.t187_3, jlen_ok sC188 (by decide) (by decide) (by decide), Option.bind_some, if_pos (by omega), Option.bind_some, cf.t187_3, jra_ok sC188 (by omega) (by omega), Option.bind_some, Int.toNat_natCast, so i (by omega), if_pos h3, Option.bind_some]
    · unfold f_X12_sort
      rw [jck_ok sM1, Option.bind_some, fM, Option.bind_some, if_neg (by decide), Option.bind_some, e', Option.bind_some, Option.bind_some, sM_sortOf hp hT hX (hG.fr f') am (by omega) h3, Option.bind_some]
  · refine ⟨-1, mC, mM, ?_, ?_, hI⟩
    · unfold f_X11_sort
      rw [jck_ok sC1, Option.bind_some, fC.2 c0, Option.bind_some, if_pos rfl]
    · unfold f_X12_sort
      rw [jck_ok sM1, Option.bind_some, fM.2 c0, Option.bind_some, if_pos rfl]
