theorem tm_le {s : Int} (hs : 98 ≤ s ∧ s ≤ 100) : 2 ≤ tmO s ∧ tmO s ≤ 4 := by unfold tmO; omega
theorem jrem_small {a : Nat} {b : Int} {c : Nat} (h : b = (c : Int)) : jrem (a : Int) b = ((a % c : Nat) : Int) := by rw [h, jrem_nat]
def GoP (N : Nat) (t cn : Nat) (sg : Nat → Int) (S w h ms cr : Nat) (bd : jBd) (d i : Nat) : Prop := ∀ (D x2 : Nat) (q : RS) (m : jm_M), d + 1 ≤ D → x2 + d ≤ 4 → i + zs sg 4 i ≤ cn → BD d ms q → GX m t cn sg S w h ms cr bd → QC m S w h cr q →
    ∃ M, f_X6_go N shC D 81 (i : Int) (x2 : Int) m = some M ∧ QC M S w h cr (ex S w h ms (dgO bd) sg d i q) ∧ GX M t cn sg S w h ms cr bd ∧ (∀ a, a ≠ 81 → ∀ j, M a j = m a j)
theorem go_all {N t cn : Nat} {sg : Nat → Int} {S w h ms cr : Nat} {bd : jBd} (hN : 100 ≤ N) (ht : t ∈ tL) (hT : ST S w h) (hms : ms ≤ 20) (hX : TX cn sg) (hV : VB bd) (hcr : cr = lr sg 0 cn) :
    ∀ d, d ≤ 4 → ∀ i, wf sg d i = true → GoP N t cn sg S w h ms cr bd d i := by
  have hcn := hX.1
  refine wf_ind sg (GoP N t cn sg S w h ms cr bd) ?_ ?_ ?_
  · intro d i hd hl hz D x2 q m hD hx hi hB hG hQ
    have hic : i < cn := by omega
    obtain ⟨D, rfl⟩ : ∃ D', D = D' + 1 := ⟨D - 1, by omega⟩
    obtain ⟨g1, g2, g3, g4, g5, g6⟩ := id hG
    obtain ⟨v, e2, -⟩ := s_second g1 ht hX g2 hic
    have ht1 := (tC g1 t ht).1
    rw [ex_leaf hl]
    have hB0 : BD 0 ms q := by
      obtain ⟨b1, b2, b3, b4⟩ := hB
      have p1 : 1 ≤ 4 ^ d := Nat.pow_pos (by decide)
      have p2 : 1 ≤ 5 ^ d := Nat.pow_pos (by decide)
      have p3 : (ms + 1) * 1 ≤ (ms + 1) * 4 ^ d := Nat.mul_le_mul_left _ p1
      exact ⟨by show q.2.1 + (ms + 1) * 1 ≤ _; omega, by show q.2.2.1 + 1 ≤ _; omega, by show q.2.2.2.1 + 1 ≤ _; omega, by show q.2.2.2.2 + 1 ≤ _; omega⟩
    have e0 : f_X6_go N shC (D + 1) 81 (i : Int) (x2 : Int) m = (if 48 ≤ sg i ∧ sg i ≤ 55 then f_X6_fetch shC 81 (lnO (sg i) : Int) m else some m) := by
      show f_X6_go_e N shC (f_X6_go N shC D) 81 (i : Int) (x2 : Int) m = _
      unfold f_X6_go_e
      rw [if_neg (by omega), jrf_ok sC81, Option.bind_some, g5, Int.toNat_natCast, jck_ok ht1, Option.bind_some, s_first (by omega), Option.bind_some, Option.bind_some, Int.toNat_natCast, jck_ok ht1, Option.bind_some, e2, Option.bind_some, Option.bind_some, Int.toNat_natCast, jck_ok ht1, Option.bind_some, s_sg g1 ht g2 hcn hic, Option.bind_some, s_partsOf (Or.inl hl), pt_0 hl, Option.bind_some, if_neg (by decide), if_neg (by decide), Option.bind_some, Int.toNat_natCast, jck_ok ht1, Option.bind_some, s_isFetch g1 ht g2 hcn hic, Option.bind_some, ifb]
      by_cases c : 48 ≤ sg i ∧ sg i ≤ 55
      · rw [if_pos c, if_pos c, Option.bind_some, Int.toNat_natCast, jck_ok ht1, Option.bind_some, s_line g1 ht g2 hcn hic c, Option.bind_some, jck_ok sC81, Option.bind_some]
        cases f_X6_fetch shC 81 (lnO (sg i) : Int) m <;> rfl
      · rw [if_neg c, if_neg c]
    rw [e0]
    by_cases c : 48 ≤ sg i ∧ sg i ≤ 55
    · rw [if_pos c]
      exact s_rfetch ht hT hms hG hQ hB0 c (by rw [hcr]; exact lr_bit cn i hic c)
    · rw [if_neg c]
      unfold exL
      rw [if_neg c]
      exact ⟨m, rfl, hQ, hG, fun _ _ _ => rfl⟩
  · intro d i hd hs hz hw ih D x2 q m hD hx hi hB hG hQ
    have hic : i < cn := by omega
    have hzp := zs_pos sg 4 (i + 1)
    obtain ⟨D, rfl⟩ : ∃ D', D = D' + 1 := ⟨D - 1, by omega⟩
    obtain ⟨g1, g2, g3, g4, g5, g6⟩ := id hG
    obtain ⟨v, e2, -⟩ := s_second g1 ht hX g2 hic
    have ht1 := (tC g1 t ht).1
    obtain ⟨M1, eN, qN, gN, fN⟩ := s_nextDigit ht hV hG hQ (Nat.le_trans (Nat.le_add_right _ _) hB.2.2.2)
    have htm := tm_le hs
    have hn : dgO bd q.2.2.2.2 % (tmO (sg i) + 1) ≤ 4 := by
      have := Nat.mod_lt (dgO bd q.2.2.2.2) (show 0 < tmO (sg i) + 1 by omega)
      omega
    rw [ex_loop hs]
    have e0 : f_X6_go N shC (D + 1) 81 (i : Int) (x2 : Int) m = f_X6_go_l83 N shC (f_X6_go N shC D) N 81 (x2 : Int) ((i + 1 : Nat) : Int) ((dgO bd q.2.2.2.2 % (tmO (sg i) + 1) : Nat) : Int) 0 M1 := by
      show f_X6_go_e N shC (f_X6_go N shC D) 81 (i : Int) (x2 : Int) m = _
      unfold f_X6_go_e
      rw [if_neg (by omega), jrf_ok sC81, Option.bind_some, g5, Int.toNat_natCast, jck_ok ht1, Option.bind_some, s_first (by omega), Option.bind_some, Option.bind_some, Int.toNat_natCast, jck_ok ht1, Option.bind_some, e2, Option.bind_some, Option.bind_some, Int.toNat_natCast, jck_ok ht1, Option.bind_some, s_sg g1 ht g2 hcn hic, Option.bind_some, s_partsOf (Or.inr (Or.inl hs)), pt_1.mpr hs, Option.bind_some, if_pos (by decide), Option.bind_some, Int.toNat_natCast, jck_ok ht1, Option.bind_some, s_times g1 ht g2 hcn hic hs, Option.bind_some, jck_ok sC81, Option.bind_some]
      unfold f_X6_howOften
      rw [jck_ok sC81, Option.bind_some, eN, Option.bind_some]
      dsimp only
      rw [jw_succ (by omega), if_pos (by omega), if_neg (by omega), jrem_nat, Option.bind_some]
    rw [e0]
    generalize dgO bd q.2.2.2.2 % (tmO (sg i) + 1) = K at hn
    obtain ⟨M2, n2, el, i1, i2, i3⟩ := loopN (fun g x m => f_X6_go_l83 N shC (f_X6_go N shC D) g 81 (x2 : Int) ((i + 1 : Nat) : Int) (K : Int) x m) K (fun k M => QC M S w h cr (itr (ex S w h ms (dgO bd) sg d (i + 1)) k (tkd q)) ∧ GX M t cn sg S w h ms cr bd ∧ (∀ a, a ≠ 81 → ∀ j, M a j = m a j)) (by
      intro n k M hk ⟨k1, k2, k3⟩
      obtain ⟨M', a1, a2, a3, a4⟩ := ih D (x2 + 1) (itr (ex S w h ms (dgO bd) sg d (i + 1)) k (tkd q)) M (by omega) (by omega) (by omega) (BD.it1 (fun q => ex_leq d (i + 1) q) (by omega) hB) k2 k1
      refine ⟨M', ?_, a2, a3, fun a ha j => (a4 a ha j).trans (k3 a ha j)⟩
      show f_X6_go_b83 N shC (f_X6_go N shC D) (f_X6_go_l83 N shC (f_X6_go N shC D) n) 81 (x2 : Int) ((i + 1 : Nat) : Int) (K : Int) k M = _
      unfold f_X6_go_b83
      rw [if_pos (by omega), jck_ok sC81, Option.bind_some, jw_succ (by omega), a1, Option.bind_some, jw_succ (by omega)]) 0 N M1 (by omega) (by omega) ⟨qN, gN, fN⟩
    refine ⟨M2, ?_, i1, i2, i3⟩
    show f_X6_go_l83 N shC (f_X6_go N shC D) N 81 (x2 : Int) ((i + 1 : Nat) : Int) (K : Int) ((0 : Nat) : Int) M1 = _
    rw [el]
    show f_X6_go_b83 N shC (f_X6_go N shC D) (f_X6_go_l83 N shC (f_X6_go N shC D) n2) 81 (x2 : Int) ((i + 1 : Nat) : Int) (K : Int) (K : Int) M2 = _
    unfold f_X6_go_b83
    rw [if_neg (by omega)]
  · intro d i hd hs hz hw hw2 ih ih2 D x2 q m hD hx hi hB hG hQ
    have hic : i < cn := by omega
    have hzp := zs_pos sg 4 (i + 1)
    have hzp2 := zs_pos sg 4 (nx sg i)
    have hnx : nx sg i = i + 1 + zs sg 4 (i + 1) := rfl
    obtain ⟨D, rfl⟩ : ∃ D', D = D' + 1 := ⟨D - 1, by omega⟩
    obtain ⟨g1, g2, g3, g4, g5, g6⟩ := id hG
    obtain ⟨v, e2, ev⟩ := s_second g1 ht hX g2 hic
    rw [ev (by omega)] at e2
    have ht1 := (tC g1 t ht).1
    have hhead : f_X6_go N shC (D + 1) 81 (i : Int) (x2 : Int) m = (if sg i = 63 then Option.bind (f_X6_nextDigit shC 81 m) (fun q38 => if (jrem q38.1 2) = 0 then f_X6_go_b136 N shC (f_X6_go N shC D) (x2 : Int) 81 ((i + 1 : Nat) : Int) q38.2 else f_X6_go_b136 N shC (f_X6_go N shC D) (x2 : Int) 81 (nx sg i : Int) q38.2) else Option.bind (f_X6_go N shC D 81 ((i + 1 : Nat) : Int) ((x2 + 1 : Nat) : Int) m) (fun q42 => Option.bind (f_X6_go N shC D 81 (nx sg i : Int) ((x2 + 1 : Nat) : Int) q42) (fun q45 => some q45))) := by
      show f_X6_go_e N shC (f_X6_go N shC D) 81 (i : Int) (x2 : Int) m = _
      unfold f_X6_go_e
      rw [if_neg (by omega), jrf_ok sC81, Option.bind_some, g5, Int.toNat_natCast, jck_ok ht1, Option.bind_some, s_first (by omega), Option.bind_some, Option.bind_some, Int.toNat_natCast, jck_ok ht1, Option.bind_some, e2, Option.bind_some, Option.bind_some, Int.toNat_natCast, jck_ok ht1, Option.bind_some, s_sg g1 ht g2 hcn hic, Option.bind_some, s_partsOf (Or.inr (Or.inr hs)), pt_2.mpr hs, Option.bind_some, if_neg (by decide), if_pos (by decide), Option.bind_some, Int.toNat_natCast, jck_ok ht1, Option.bind_some, s_sg g1 ht g2 hcn hic, Option.bind_some, jw_succ (by omega)]
      simp only [jck_ok sC81, Option.bind_some]
    rw [hhead]
    rcases hs with hs | hs
    · rw [if_neg (by omega), ex_seq hs]
      obtain ⟨M1, a1, a2, a3, a4⟩ := ih D (x2 + 1) q m (by omega) (by omega) (by omega) hB.same hG hQ
      obtain ⟨M2, b1, b2, b3, b4⟩ := ih2 D (x2 + 1) _ M1 (by omega) (by omega) (by omega) (hB.ex1 (ex_leq d (i + 1) q)) a3 a2
      refine ⟨M2, ?_, b2, b3, fun a ha j => (b4 a ha j).trans (a4 a ha j)⟩
      rw [a1, Option.bind_some, b1, Option.bind_some]
    · rw [if_pos hs, ex_cho hs]
      obtain ⟨M1, eN, qN, gN, fN⟩ := s_nextDigit ht hV hG hQ (Nat.le_trans (Nat.le_add_right _ _) hB.2.2.2)
      rw [eN, Option.bind_some]
      dsimp only
      rw [(show jrem (dgO bd q.2.2.2.2 : Int) 2 = ((dgO bd q.2.2.2.2 % 2 : Nat) : Int) from jrem_nat _ 2)]
      unfold f_X6_go_b136
      rw [jck_ok sC81, Option.bind_some, Option.bind_some, jw_succ (by omega)]
      by_cases c : dgO bd q.2.2.2.2 % 2 = 0
      · obtain ⟨M2, b1, b2, b3, b4⟩ := ih D (x2 + 1) (tkd q) M1 (by omega) (by omega) (by omega) hB.tk1 gN qN
        rw [if_pos (by omega), if_pos c, b1, Option.bind_some]
        exact ⟨M2, rfl, b2, b3, fun a ha j => (b4 a ha j).trans (fN a ha j)⟩
      · obtain ⟨M2, b1, b2, b3, b4⟩ := ih2 D (x2 + 1) (tkd q) M1 (by omega) (by omega) (by omega) hB.tk1 gN qN
        rw [if_neg (by omega), if_neg c, b1, Option.bind_some]
        exact ⟨M2, rfl, b2, b3, fun a ha j => (b4 a ha j).trans (fN a ha j)⟩
