theorem n142 : nC 142 0 = true := by decide +kernel
theorem s_trace {N t cn : Nat} {sg : Nat → Int} {S w h : Nat} {m : jm_M} (hN : 100 ≤ N) (ht : t ∈ tL) (hF : CF m) (hX : TX cn sg) (hC : CT m t cn sg) (hT : ST S w h) (hS : GS m S w h) : ∃ M, f_X0_trace N shC 142 t m = some M ∧ CF M ∧ AW M (pa S w h sg 4 0 (inA S w h, fun _ => none)) ∧ ∀ a, a < 142 ∨ 186 < a → ∀ j, M a j = m a j := by
  have htl := tL_lt t ht
  generalize hm1 : jm_up m 142 0 (t : Int) = m1
  have k1 : ∀ a, a ≠ 142 → ∀ j, m1 a j = m a j := fun a ha j => by rw [← hm1]; exact up_ne ha
  have hG1 : GA m1 t cn sg S w h := ⟨by rw [← hm1]; exact hF.up n142, hC.same (fun a h1 h2 j => k1 a (by omega) j), ⟨by rw [k1 3 (by decide)]; exact hS.1, by rw [k1 3 (by decide)]; exact hS.2.1, by rw [k1 3 (by decide)]; exact hS.2.2⟩, by rw [← hm1]; exact up_eq⟩
  have hr2 : ∀ s, rmS S w h s ≤ 2 := fun s => rm_le hT.2.1.2
  obtain ⟨M, n', e, q⟩ := loopN (fun n k m => f_X0_trace_l7 N shC n 142 k m) 8 (fun x M => (∀ k, k < 16 → (k < x ∨ (8 ≤ k ∧ k < 8 + x)) → M 143 k = (inA S w h k : Int)) ∧ ∀ c, c ≠ 143 → ∀ j, M c j = m1 c j) (fun n x M hx hI => by
    have fr : FrA m1 M 0 := FrA.one hI.2 (by unfold offA; omega)
    have hG := hG1.fr ht fr
    have cf := hG.1
    have e8 : jw (8 + (x : Int)) = ((8 + x : Nat) : Int) := by rw [jw_eq (by omega) (by omega)]; omega
    have i1 : inA S w h x = if hb h x = true then 0 else rmS S w h (x % S) := if_pos (by omega)
    have i2 : inA S w h (8 + x) = if hb h x = true then 0 else rmS S w h (x % S) := by
      unfold inA
      rw [if_neg (by omega), Nat.add_sub_cancel_left]
    have cf1 : CF (jm_up M 143 x (inA S w h x : Int)) := cf.row r143.c (fun c hc j => up_ne hc)
    refine ⟨jm_up (jm_up M 143 x (inA S w h x : Int)) 143 (8 + x) (inA S w h (8 + x) : Int), ?_, fun k hk hc => ?_, fun c hc j => (up_ne hc).trans ((up_ne hc).trans (hI.2 c hc j))⟩
    · have h36 : ∀ z : Int, z = (inA S w h x : Int) → f_X0_trace_b36 N shC (f_X0_trace_l7 N shC n) 142 (x : Int) z M = f_X0_trace_l7 N shC n 142 ((x + 1 : Nat) : Int) (jm_up (jm_up M 143 x (inA S w h x : Int)) 143 (8 + x) (inA S w h (8 + x) : Int)) := by
        intro z hz
        rw [hz]
        unfold f_X0_trace_b36
        rw [jrf_ok sC142, Option.bind_some, cf.t142_2, jwa_ok r143.s (by omega) (by omega), Option.bind_some, Int.toNat_natCast, jrf_ok sC142, Option.bind_some, cf1.t142_2, e8, jwa_ok r143.s (by omega) (by omega), Option.bind_some, Int.toNat_natCast, jw_succ (by omega), show (inA S w h x : Int) = (inA S w h (8 + x) : Int) by rw [i1, i2]]
      show f_X0_trace_b7 N shC (f_X0_trace_l7 N shC n) 142 (x : Int) M = _
      unfold f_X0_trace_b7
      rw [if_pos (by omega), jrf_ok sC142, Option.bind_some, cf.t142_1, jck_ok sC2, Option.bind_some, s_holds cf hG.2.2.1 hT.2.2.1 hx, Option.bind_some, ifb]
      by_cases c : hb h x = true
      · rw [if_pos c]
        rw [if_pos c] at i1
        exact h36 0 (by rw [i1]; rfl)
      · rw [if_neg c, Option.bind_some, cf.t142_1, jck_ok sC2, Option.bind_some, s_roomFor cf hG.2.2.1 hT hx, Option.bind_some]
        rw [if_neg c] at i1
        exact h36 _ (by rw [i1])
    · by_cases c : k = 8 + x
      · rw [c, up_eq]
      · rw [up_nk c]
        by_cases c' : k = x
        · rw [c', up_eq]
        · rw [up_nk c']
          exact hI.1 k hk (by omega)) 0 N m1 (by omega) (by omega) ⟨fun k hk hc => by omega, fun _ _ _ => rfl⟩
  have e : f_X0_trace_l7 N shC N 142 0 m1 = f_X0_trace_l7 N shC (n' + 1) 142 ((8 : Nat) : Int) M := e
  have fr : FrA m1 M 0 := FrA.one q.2 (by unfold offA; omega)
  obtain ⟨M', e', a', f'⟩ := pass_all (N := N) hN ht hX hT 4 (Nat.le_refl 4) 0 hX.2.1 8 0 (inA S w h, fun _ => none) M (by omega) (by omega) (by rw [hX.2.2]; omega) (inA_bd hT.2.1.2) (hG1.fr ht fr) ⟨fun k hk => q.1 k hk (by omega), fun _ _ _ z => by cases z⟩
  have frs := fr.tr f' (Nat.le_refl 0)
  refine ⟨M', ?_, (hG1.fr ht frs).1, a', fun a ha j => (frs a (by unfold offA; omega) j).trans (k1 a (by omega) j)⟩
  have e' : f_X0_pass N shC 8 142 0 0 M = some M' := e'
  unfold f_X0_trace
  rw [jwr_ok sC142 (by omega), Option.bind_some, hm1, e]
  show f_X0_trace_b7 N shC (f_X0_trace_l7 N shC n') 142 ((8 : Nat) : Int) M = _
  unfold f_X0_trace_b7
  rw [if_neg (by omega), jck_ok sC142, Option.bind_some, e', Option.bind_some]
