theorem pa_loopC {N t cn : Nat} {sg : Nat → Int} {S w h : Nat} (hN : 100 ≤ N) (ht : t ∈ tL) (hX : TX cn sg) (hT : ST S w h) {d i : Nat} (hs : 98 ≤ sg i ∧ sg i ≤ 100) (hz : zs sg 4 i = 1 + zs sg 4 (i + 1)) (ih : PaP N t cn sg S w h d (i + 1)) : PaP N t cn sg S w h (d + 1) i := by
  intro D x q m hx hD hi hb hG hA
  have hp1 := zs_pos sg 4 (i + 1)
  obtain ⟨D, rfl⟩ : ∃ D', D = D' + 1 := ⟨D - 1, by omega⟩
  obtain ⟨v, -, hd⟩ := pass_hd (N := N) (D := D) (x := x) ht hX hG (show i < cn by omega) (by omega)
  rw [pa_loop hs]
  have stop : ∀ (n : Nat) (x4 : Int) (M : jm_M), f_X0_passLoop_l5 N shC (f_X0_pass N shC D) (n + 1) 142 ((i + 1 : Nat) : Int) (x : Int) 0 x4 M = some M := by
    intro n x4 M
    show f_X0_passLoop_b5 N shC (f_X0_pass N shC D) (f_X0_passLoop_l5 N shC (f_X0_pass N shC D) n) 142 ((i + 1 : Nat) : Int) (x : Int) 0 x4 M = _
    unfold f_X0_passLoop_b5
    by_cases c : x4 < 64
    · rw [if_pos c, if_pos rfl]
    · rw [if_neg c]
  have key : ∀ (r n x4 : Nat) (q : AS) (M : jm_M), x4 + r = 64 → r + 1 < n → bdA q.1 → GA M t cn sg S w h → AW M q → ∃ M', f_X0_passLoop_l5 N shC (f_X0_pass N shC D) n 142 ((i + 1 : Nat) : Int) (x : Int) 1 (x4 : Int) M = some M' ∧ AW M' (lpA (pa S w h sg d (i + 1)) r q) ∧ FrA M M' x := by
    intro r
    induction r with
    | zero =>
      intro n x4 q M h4 hn hb hG hA
      obtain ⟨n, rfl⟩ : ∃ n', n = n' + 1 := ⟨n - 1, by omega⟩
      refine ⟨M, ?_, hA, FrA.rf M x⟩
      show f_X0_passLoop_b5 N shC (f_X0_pass N shC D) (f_X0_passLoop_l5 N shC (f_X0_pass N shC D) n) 142 ((i + 1 : Nat) : Int) (x : Int) 1 (x4 : Int) M = _
      unfold f_X0_passLoop_b5
      rw [if_neg (by omega)]
    | succ r ihr =>
      intro n x4 q M h4 hn hb hG hA
      obtain ⟨n, rfl⟩ : ∃ n', n = n' + 1 := ⟨n - 1, by omega⟩
      obtain ⟨r1, i1, -, -⟩ := ca_row hG.1 (show x < 5 by omega)
      obtain ⟨M1, e1, a1, f1⟩ := s_copyA (N := N) (by omega) r143 i1 (by omega) hA.1
      have fr1 : FrA M M1 x := FrA.one f1 (by unfold offA; omega)
      have hG1 := hG.fr ht fr1
      have hA1 : AW M1 q := hA.same (fun a h1 h2 j => f1 a (by omega) j)
      obtain ⟨M2, e2, a2, f2⟩ := ih D (x + 1) q M1 (by omega) (by omega) (by omega) hb hG1 hA1
      have f2' : FrA M1 M2 x := fun a ha j => f2 a (by unfold offA at ha ⊢; omega) j
      have hG2 := hG1.fr ht f2'
      have k2 : RA M2 (176 + x) q.1 := a1.same (f2 (176 + x) (by unfold offA; omega))
      obtain ⟨M3, e3, a3, f3⟩ := s_joinA (N := N) (by omega) hG2.1 i1 (by omega) a2.1 k2
      have fr3 : FrA M2 M3 x := FrA.one f3 (by unfold offA; omega)
      have hG3 := hG2.fr ht fr3
      have k3 : RA M3 (176 + x) q.1 := k2.same (f3 (176 + x) (by omega))
      have hA3 := a2.now a3 f3
      have frs : FrA M M3 x := (fr1.tr f2' (Nat.le_refl _)).tr fr3 (Nat.le_refl _)
      have hsame := s_isSameA (N := N) (by omega) r143 i1 a3 k3
      have head : f_X0_passLoop_l5 N shC (f_X0_pass N shC D) (n + 1) 142 ((i + 1 : Nat) : Int) (x : Int) 1 (x4 : Int) M = if sA (jAg (pa S w h sg d (i + 1) q).1 q.1) q.1 = true then f_X0_passLoop_l5 N shC (f_X0_pass N shC D) n 142 ((i + 1 : Nat) : Int) (x : Int) 0 ((x4 + 1 : Nat) : Int) M3 else f_X0_passLoop_l5 N shC (f_X0_pass N shC D) n 142 ((i + 1 : Nat) : Int) (x : Int) 1 ((x4 + 1 : Nat) : Int) M3 := by
        show f_X0_passLoop_b5 N shC (f_X0_pass N shC D) (f_X0_passLoop_l5 N shC (f_X0_pass N shC D) n) 142 ((i + 1 : Nat) : Int) (x : Int) 1 (x4 : Int) M = _
        unfold f_X0_passLoop_b5 f_X0_passLoop_b68
        rw [if_pos (by omega), if_neg (by decide), jrf_ok sC142, Option.bind_some, hG.1.t142_2, jrf_ok sC142, Option.bind_some, hG.1.t142_4, jra_ok sC175 (by omega) (by omega), Option.bind_some, Int.toNat_natCast, r1, e1, Option.bind_some, jck_ok sC142, Option.bind_some, jw_succ (by omega), e2, Option.bind_some, jrf_ok sC142, Option.bind_some, hG2.1.t142_4, jra_ok sC175 (by omega) (by omega), Option.bind_some, Int.toNat_natCast, (ca_row hG2.1 (show x < 5 by omega)).1, Option.bind_some, e3, Option.bind_some, jrf_ok sC142, Option.bind_some, hG3.1.t142_2, jrf_ok sC142, Option.bind_some, hG3.1.t142_4, jra_ok sC175 (by omega) (by omega), Option.bind_some, Int.toNat_natCast, (ca_row hG3.1 (show x < 5 by omega)).1, hsame, Option.bind_some, ifb, jw_succ (by omega)]
      rw [head]
      have el : lpA (pa S w h sg d (i + 1)) (r + 1) q = if sA (jAg (pa S w h sg d (i + 1) q).1 q.1) q.1 = true then (jAg (pa S w h sg d (i + 1) q).1 q.1, (pa S w h sg d (i + 1) q).2) else lpA (pa S w h sg d (i + 1)) r (jAg (pa S w h sg d (i + 1) q).1 q.1, (pa S w h sg d (i + 1) q).2) := rfl
      rw [el]
      by_cases c : sA (jAg (pa S w h sg d (i + 1) q).1 q.1) q.1 = true
      · rw [if_pos c, if_pos c]
        obtain ⟨n, rfl⟩ : ∃ n', n = n' + 1 := ⟨n - 1, by omega⟩
        exact ⟨M3, stop n _ M3, hA3, frs⟩
      · rw [if_neg c, if_neg c]
        obtain ⟨M', e', a', f'⟩ := ihr n (x4 + 1) (jAg (pa S w h sg d (i + 1) q).1 q.1, (pa S w h sg d (i + 1) q).2) M3 (by omega) (by omega) (jA_bd (pa_bd hT.2.1.2 d (i + 1) q hb) hb) hG3 hA3
        exact ⟨M', e', a', frs.tr f' (Nat.le_refl _)⟩
  obtain ⟨M', e', a', f'⟩ := key 64 N 0 q m (by omega) (by omega) hb hG hA
  refine ⟨M', ?_, a', f'⟩
  refine hd _ (fun z => by omega) (fun z => by omega) (fun z => by omega) (fun _ => ?_) (fun z => by omega)
  have e' : f_X0_passLoop_l5 N shC (f_X0_pass N shC D) N 142 ((i + 1 : Nat) : Int) (x : Int) 1 0 m = some M' := e'
  rw [e', Option.bind_some]
theorem pass_all {N t cn : Nat} {sg : Nat → Int} {S w h : Nat} (hN : 100 ≤ N) (ht : t ∈ tL) (hX : TX cn sg) (hT : ST S w h) : ∀ d, d ≤ 4 → ∀ i, wf sg d i = true → PaP N t cn sg S w h d i := by
  refine wf_ind sg (PaP N t cn sg S w h) ?_ ?_ ?_
  · intro d i hd hl hz
    exact pa_leafC hN ht hX hT hl hz
  · intro d i hd hs hz hw ih
    exact pa_loopC hN ht hX hT hs hz ih
  · intro d i hd hs hz hw hw2 ih ih2
    rcases hs with hs | hs
    · exact pa_seqC ht hX hT hs hz ih ih2
    · exact pa_choC hN ht hX hT hs hz ih ih2
