def BV (W : Bool) (A : SX) (v : Nat) : Prop := (∃ k, A k v) ∧ ∀ k' v', A k' v' → gd W v v'
theorem BV.uniq {W : Bool} {A : SX} {v u : Nat} (h : BV W A v) (g : BV W A u) : v = u := by
  obtain ⟨k, a⟩ := h.1
  obtain ⟨k', b⟩ := g.1
  exact gd_anti (h.2 k' u b) (g.2 k v a)
theorem AX_lt {S w h ms : Nat} {sg : Nat → Int} (hT : ST S w h) {k v : Nat} (hA : AX S w h ms sg k v) : k < KN S := Rx_in hT 4 0 0 k v (by have := KN_le hT.1; omega) hA
theorem AX_le {S w h ms : Nat} {sg : Nat → Int} {k v : Nat} (hA : AX S w h ms sg k v) : v ≤ (ms + 1) * 4 ^ 4 := Rx_le 4 0 0 k v hA
theorem bst_BV {W : Bool} {S w h ms : Nat} {sg : Nat → Int} {T : Tb} (hT : ST S w h) (hB : BO W (KN S) (AX S w h ms sg) T) : ∃ v : Nat, bst W T (KN S) = (v : Int) ∧ BV W (AX S w h ms sg) v := by
  rcases bst_spec hB (KN S) (Nat.le_refl _) with ⟨_, h2⟩ | ⟨k, v, a1, a2, a3, a4⟩
  · obtain ⟨k', c, q⟩ := Rx_some (S := S) (w := w) (h := h) (ms := ms) (sg := sg) 4 0 0
    exact absurd q (h2 k' c (AX_lt (S := S) (w := w) (h := h) (ms := ms) (sg := sg) hT q))
  · exact ⟨v, a2, ⟨k, a3⟩, fun k' v' q => a4 k' v' (AX_lt hT q) q⟩
theorem n82 : nC 82 0 = true ∧ nC 82 1 = true ∧ nC 82 2 = true ∧ nC 82 3 = true ∧ nC 82 4 = true := by decide
theorem s_costOf {N t cn : Nat} {sg : Nat → Int} {S w h ms : Nat} {W : Bool} {m : jm_M} (hN : 1000 ≤ N) (ht : t ∈ tL) (hF : CF m) (hR : ∀ r ∈ rrL, RR m r) (hX : TX cn sg) (hC : CT m t cn sg) (hT : ST S w h) (hms : ms ≤ 20) (h0 : m 3 0 = (S : Int)) (h1 : m 3 1 = (w : Int)) :
    ∃ (v : Nat) (M : jm_M) (n : Nat), f_X8_costOf N shC 82 t (ms : Int) (h : Int) (if W then 1 else 0) m = some ((v : Int), M) ∧ BV W (AX S w h ms sg) v ∧ RB M 87 n S w h (lr sg 0 cn) W (AX S w h ms sg) ∧ CF M ∧ (∀ r ∈ rrL, RR M r) ∧ (∀ a, a < 65 ∨ a = 81 ∨ 111 < a → ∀ j, M a j = m a j) ∧ (∀ j, j ≠ 2 → j ≠ 3 → j ≠ 4 → M 82 j = m 82 j) := by
  obtain ⟨n0, n1, n2, n3, n4⟩ := n82
  have htl := tL_lt t ht
  obtain ⟨t1, -⟩ := tC hF t ht
  let m4 : jm_M := jm_up (jm_up (jm_up m 82 4 (t : Int)) 82 3 (ms : Int)) 82 2 (if W then 1 else 0)
  have hF4 : CF m4 := ((hF.up n4).up n3).up n2
  have k4 : ∀ a, a ≠ 82 → ∀ j, m4 a j = m a j := fun a ha j => by show jm_up _ _ _ _ _ _ = _; rw [up_ne ha, up_ne ha, up_ne ha]
  have hC4 : CT m4 t cn sg := hC.same (fun a h1 h2 => k4 a (by omega))
  obtain ⟨M1, e1, l1, c1, f1⟩ := s_lay (N := N) (cr := lr sg 0 cn) (by omega) hF4 hT (lr_lt sg 0 cn) (by rw [k4 3 (by decide)]; exact h0) (by rw [k4 3 (by decide)]; exact h1)
  have hR1 : ∀ r ∈ rrL, RR M1 r := fun r hr => (hR r hr).same (fun a h1 h2 j => by have := rr_ge r hr; rw [f1 a (by omega), k4 a (by omega)])
  have r83 : 83 ∈ rrL := by decide
  have r87 : 87 ∈ rrL := by decide
  obtain ⟨M2, e2, b2, f2⟩ := s_clear (N := N) (S := S) (w := w) (h := h) (cr := lr sg 0 cn) (W := W) hN r83 c1 (hR1 83 r83)
  have c2 := f2.CF r83 c1
  obtain ⟨M3, n3', e3, b3, f3⟩ := s_addR (v := 0) r83 c2 hT b2 (Rk.zero hT.2.1.2 hT.1) (by omega)
  have c3 := f3.CF r83 c2
  have f23 := f2.tr f3
  have hRR3 : ∀ r ∈ rrL, RR M3 r := fun r hr => by
    by_cases c : r = 83
    · rw [c]; exact b3.1.RR
    · have far := rr_far hr r83 c
      exact (hR1 r hr).same (fun a h1 h2 j => f23.1 a (by omega) j)
  have hG : GF M3 t cn sg S w h ms (lr sg 0 cn) W := by
    refine ⟨c3, hC4.same (fun a h1 h2 j => by rw [f23.1 a (by omega), f1 a (by omega)]), l1.same (fun a h1 h2 => f23.1 a (by omega)), ?_, ?_, ?_, hRR3⟩
    · rw [f23.1 82 (by omega), f1 82 (by omega)]
      show jm_up _ _ _ _ _ _ = _
      rw [up_nk (by decide), up_nk (by decide), up_eq]
    · rw [f23.1 82 (by omega), f1 82 (by omega)]
      show jm_up _ _ _ _ _ _ = _
      rw [up_nk (by decide), up_eq]
    · rw [f23.1 82 (by omega), f1 82 (by omega)]
      exact up_eq
  have h4 : (ms + 1) * 4 ^ 4 ≤ 21 * 4 ^ 4 := Nat.mul_le_mul_right _ (by omega)
  obtain ⟨M4, n, e4, g4, b4, f4⟩ := flow_all (N := N) hN ht hT hms hX rfl 4 (Nat.le_refl 4) 0 hX.2.1 8 0 83 87 n3' 0 _ M3 (by decide) (by decide) r83 r87 (by decide) (by decide) (by decide) (by rw [hX.2.2]; omega) hG b3 (fun k v q => by rcases q with q | q; exact q.elim; rw [q.2]; exact Nat.le_refl 0) (by omega)
  have b4' : RB M4 87 n S w h (lr sg 0 cn) W (AX S w h ms sg) := b4.ext fun k v => ⟨fun ⟨k1, v1, c, a, b, e⟩ => by
    rcases a with a | a
    · exact a.elim
    · rw [a.1] at b
      rw [e, a.2, Nat.zero_add]; exact b, fun q => ⟨0, 0, v, Or.inr ⟨rfl, rfl⟩, q, by omega⟩⟩
  have e4 : f_X8_flow N shC 8 82 0 0 83 87 M3 = some M4 := e4
  -- the best of the ends
  have hn6 := b4'.1.1
  obtain ⟨k0, v0, q0⟩ := Rx_some (S := S) (w := w) (h := h) (ms := ms) (sg := sg) 4 0 0
  obtain ⟨i0, cc0, hi0, -⟩ := b4'.2.2 k0 v0 q0
  have hn1 : 1 ≤ n := by omega
  have hent : ∀ i, i < n → ∃ k v : Nat, M4 89 i = (v : Int) ∧ AX S w h ms sg k v ∧ ∀ v', AX S w h ms sg k v' → gd W v v' := fun i hi => by
    obtain ⟨k, v, c, d1, d2, d3, d4, d5⟩ := b4'.2.1 i hi
    exact ⟨k, v, d3, d4, d5⟩
  have key : ∀ (r j g u : Nat), j + r = n → 1 ≤ j → r < g → (∃ i, i < j ∧ M4 89 i = (u : Int)) → (∀ i (v : Nat), i < j → M4 89 i = (v : Int) → gd W u v) → ∃ v : Nat, f_X8_costOf_l77 N shC g 82 (if W then 1 else 0) (u : Int) (j : Int) M4 = some ((v : Int), M4) ∧ (∃ i, i < n ∧ M4 89 i = (v : Int)) ∧ ∀ i (v' : Nat), i < n → M4 89 i = (v' : Int) → gd W v v' := by
    intro r
    induction r with
    | zero =>
      intro j g u hj hj1 hg h1 h2
      obtain ⟨g, rfl⟩ : ∃ n', g = n' + 1 := ⟨g - 1, by omega⟩
      have ej : j = n := by omega
      subst ej
      refine ⟨u, ?_, h1, h2⟩
      show f_X8_costOf_b77 N shC (f_X8_costOf_l77 N shC g) 82 (if W then 1 else 0) (u : Int) (j : Int) M4 = _
      unfold f_X8_costOf_b77
      rw [jrf_ok sC82, Option.bind_some, g4.1.t82_8, jrf_ok sC87, Option.bind_some, b4'.1.2.1, if_neg (by omega)]
    | succ r ih =>
      intro j g u hj hj1 hg h1 h2
      obtain ⟨g, rfl⟩ : ∃ n', g = n' + 1 := ⟨g - 1, by omega⟩
      obtain ⟨k, v, d1, d2, d3⟩ := hent j (by omega)
      have hat := (s_shelfAt g4.1 r87 (show j < 625 by omega)).2
      have hat : f_X4_costAt shC 87 (j : Int) M4 = some (v : Int) := by rw [hat]; exact congrArg some d1
      have next : ∀ u' : Nat, (u' = u ∨ u' = v) → gd W u' u → gd W u' v → ∃ v : Nat, f_X8_costOf_l77 N shC g 82 (if W then 1 else 0) (u' : Int) ((j + 1 : Nat) : Int) M4 = some ((v : Int), M4) ∧ (∃ i, i < n ∧ M4 89 i = (v : Int)) ∧ ∀ i (v' : Nat), i < n → M4 89 i = (v' : Int) → gd W v v' := by
        intro u' hu g1 g2
        refine ih (j + 1) g u' (by omega) (by omega) (by omega) ?_ (fun i v' hi he => ?_)
        · rcases hu with rfl | rfl
          · obtain ⟨i, hi, e⟩ := h1
            exact ⟨i, by omega, e⟩
          · exact ⟨j, by omega, d1⟩
        · by_cases c : i = j
          · subst c
            rw [d1] at he
            have : v = v' := by omega
            rw [← this]; exact g2
          · exact gd_trans g1 (h2 i v' (by omega) he)
      show ∃ v : Nat, f_X8_costOf_b77 N shC (f_X8_costOf_l77 N shC g) 82 (if W then 1 else 0) (u : Int) (j : Int) M4 = some ((v : Int), M4) ∧ _
      unfold f_X8_costOf_b77 f_X8_costOf_b125
      rw [jrf_ok sC82, Option.bind_some, g4.1.t82_8, jrf_ok sC87, Option.bind_some, b4'.1.2.1, if_pos (by omega)]
      simp only [Option.bind_some, g4.1.t82_8, jck_ok sC87, hat]
      rw [jw_succ (by omega)]
      cases W with
      | true =>
        rw [if_neg (by decide)]
        unfold f_J9_max_7cf53
        by_cases q : u < v
        · rw [if_pos (by omega), Option.bind_some]
          exact next v (Or.inr rfl) (by unfold gd; simp; omega) gd_refl
        · rw [if_neg (by omega), Option.bind_some]
          exact next u (Or.inl rfl) gd_refl (by unfold gd; simp; omega)
      | false =>
        rw [if_pos (show (if false = true then (1 : Int) else 0) = 0 from rfl)]
        unfold f_J9_min_7cf53
        by_cases q : v < u
        · rw [if_pos (by omega), Option.bind_some]
          exact next v (Or.inr rfl) (by unfold gd; simp; omega) gd_refl
        · rw [if_neg (by omega), Option.bind_some]
          exact next u (Or.inl rfl) gd_refl (by unfold gd; simp; omega)
  obtain ⟨kf, vf, df1, df2, df3⟩ := hent 0 (by omega)
  obtain ⟨v, kv1, ⟨iv, kv2, kv3⟩, kv4⟩ := key (n - 1) 1 N vf (by omega) (Nat.le_refl 1) (by omega) ⟨0, by omega, df1⟩ (fun i v' hi he => by
    obtain rfl : i = 0 := by omega
    rw [df1] at he
    have : vf = v' := by omega
    rw [this]; exact gd_refl)
  refine ⟨v, M4, n, ?_, ⟨?_, fun k' v' q => ?_⟩, b4', g4.1, g4.2.2.2.2.2.2, fun a ha j => ?_, fun j j2 j3 j4 => ?_⟩
  · have hz : jzb (if W then 1 else 0) = some (if W then 1 else 0) := by cases W <;> rfl
    have hat0 : f_X4_costAt shC 87 0 M4 = some (vf : Int) := by
      have := (s_shelfAt g4.1 r87 (show 0 < 625 by omega)).2
      have : f_X4_costAt shC 87 0 M4 = some (M4 89 0) := this
      rw [this]; exact congrArg some df1
    have e3 : f_X4_add shC 83 0 0 (if W then 1 else 0) M2 = some M3 := e3
    have kv1 : f_X8_costOf_l77 N shC N 82 (if W then 1 else 0) (vf : Int) 1 M4 = some ((v : Int), M4) := kv1
    unfold f_X8_costOf
    rw [jwr_ok sC82 (by omega), Option.bind_some, jwf_ok sC82, Option.bind_some, hz, Option.bind_some, jwf_ok sC82, Option.bind_some]
    rw [show jm_up (jm_up (jm_up m 82 4 (t : Int)) 82 3 (ms : Int)) 82 2 (if W then 1 else 0) = m4 from rfl]
    rw [jrf_ok sC82, Option.bind_some, jrf_ok sC82, Option.bind_some, jck_ok t1, Option.bind_some, s_allLines hF4 ht hX hC4, Option.bind_some, hF4.t82_6, hF4.t82_5, jck_ok sC65, Option.bind_some, e1, Option.bind_some, jrf_ok sC82, Option.bind_some, c1.t82_7, jck_ok sC83, Option.bind_some, e2, Option.bind_some, jrf_ok sC82, Option.bind_some, c2.t82_7, jck_ok sC83, Option.bind_some, e3, Option.bind_some, jrf_ok sC82, Option.bind_some, jrf_ok sC82, Option.bind_some, c3.t82_7, c3.t82_8, jck_ok sC82, Option.bind_some, e4, Option.bind_some, jrf_ok sC82, Option.bind_some, g4.1.t82_8, jck_ok sC87, Option.bind_some, hat0, Option.bind_some]
    exact kv1
  · obtain ⟨k, u, d1, d2, d3⟩ := hent iv kv2
    rw [d1] at kv3
    have : u = v := by omega
    rw [this] at d2
    exact ⟨k, d2⟩
  · obtain ⟨i, c, hi, d1, d2⟩ := b4'.2.2 k' v' q
    obtain ⟨k1, v1, c1', x1, x2, x3, x4, x5⟩ := b4'.2.1 i hi
    rw [x1] at d1
    have ec : c1' = c := by omega
    subst ec
    have ek : k1 = k' := Rk.c_inj hT.1 hT.2.1.2 x2 d2
    subst ek
    exact gd_trans (kv4 i v1 hi x3) (x5 v' q)
  · rw [f4 a (by omega) (by omega), f23.1 a (by omega), f1 a (by omega), k4 a (by omega)]
  · rw [f4 82 (by omega) (by omega), f23.1 82 (by omega), f1 82 (by omega)]
    show jm_up _ _ _ _ _ _ = _
    rw [up_nk j2, up_nk j3, up_nk j4]
