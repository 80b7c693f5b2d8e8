/-- a loop that counts down to -1 and keeps I -/
theorem loopD {β : Type} (L : Nat → Int → jm_M → β) (K : Nat) (I : Nat → jm_M → Prop) (hstep : ∀ n r m, r < K → I (r + 1) m → ∃ m', L (n + 1) (r : Int) m = L n ((r : Int) - 1) m' ∧ I r m') : ∀ r n m, r ≤ K → r < n → I r m → ∃ m' n', L n ((r : Int) - 1) m = L (n' + 1) (-1) m' ∧ I 0 m' := by
  intro r
  induction r with
  | zero =>
    intro n m hr hn hI
    exact ⟨m, n - 1, by rw [show n - 1 + 1 = n by omega]; rfl, hI⟩
  | succ r ih =>
    intro n m hr hn hI
    obtain ⟨n, rfl⟩ : ∃ n', n = n' + 1 := ⟨n - 1, by omega⟩
    obtain ⟨m', e, h⟩ := hstep n r m (by omega) hI
    obtain ⟨m2, n2, e2, h2⟩ := ih n m' (by omega) (by omega) h
    exact ⟨m2, n2, by rw [show ((r + 1 : Nat) : Int) - 1 = (r : Int) by omega, e, e2], h2⟩
theorem tbO_at {S w h : Nat} {ms one : Int} {sg : Nat → Int} {cn r : Nat} (hr : r < cn) : tbO S w h ms one sg cn (cn - r) r = ncO S w h ms one sg (tbO S w h ms one sg cn (cn - (r + 1))) r := by
  obtain ⟨k, hk⟩ : ∃ k, cn - r = k + 1 := ⟨cn - r - 1, by omega⟩
  rw [hk, show cn - (r + 1) = k by omega]
  have e : tbO S w h ms one sg cn (k + 1) r = if r = cn - 1 - k then ncO S w h ms one sg (tbO S w h ms one sg cn k) (cn - 1 - k) else tbO S w h ms one sg cn k r := rfl
  rw [e, if_pos (by omega), show cn - 1 - k = r by omega]
theorem tbO_ne {S w h : Nat} {ms one : Int} {sg : Nat → Int} {cn r j : Nat} (hr : r < cn) (hj : j ≠ r) : tbO S w h ms one sg cn (cn - r) j = tbO S w h ms one sg cn (cn - (r + 1)) j := by
  obtain ⟨k, hk⟩ : ∃ k, cn - r = k + 1 := ⟨cn - r - 1, by omega⟩
  rw [hk, show cn - (r + 1) = k by omega]
  have e : tbO S w h ms one sg cn (k + 1) j = if j = cn - 1 - k then ncO S w h ms one sg (tbO S w h ms one sg cn k) (cn - 1 - k) else tbO S w h ms one sg cn k j := rfl
  rw [e, if_neg (by omega)]
theorem n189 : rC 189 = true := by decide +kernel
theorem s_bcostOf {N t cn : Nat} {sg : Nat → Int} {S w h ms : Nat} {one : Int} {m : jm_M} (hN : 100 ≤ N) (ht : t ∈ tL) (hF : CF m) (hX : TX cn sg) (hC : CT m t cn sg) (h0 : m 187 0 = (t : Int)) (hSO : SO m cn sg S w h) (h2 : m 3 2 = (ms : Int)) : ∃ M, f_X2_costOf N shC 187 one m = some (tbO S w h (ms : Int) one sg cn cn 0, M) ∧ CF M ∧ ∀ a, a ≠ 189 → ∀ j, M a j = m a j := by
  have hcn := hX.1
  have hpos := hX.pos
  have htl := tL_lt t ht
  have et : (m 187 0).toNat = t := by rw [h0]; exact Int.toNat_natCast _
  have t1 := (tC hF t ht).1
  have all : ∀ M : jm_M, (∀ a, a ≠ 189 → ∀ j, M a j = m a j) → CF M ∧ CT M t cn sg ∧ M 187 0 = (t : Int) ∧ SO M cn sg S w h ∧ M 3 2 = (ms : Int) := fun M hs => ⟨hF.row n189 hs, hC.same (fun a h1 h2 j => hs a (by omega) j), by rw [hs 187 (by decide)]; exact h0, fun j hj => by rw [hs 188 (by decide)]; exact hSO j hj, by rw [hs 3 (by decide)]; exact h2⟩
  obtain ⟨M, n', e, q⟩ := loopD (fun n k m => f_X2_costOf_l10 N shC n 187 one k m) cn (fun r M => (∀ j, r ≤ j → j < cn → M 189 j = tbO S w h (ms : Int) one sg cn (cn - r) j) ∧ ∀ a, a ≠ 189 → ∀ j, M a j = m a j) (fun n r M hr hI => by
    obtain ⟨cf, ct, z0, so, z2⟩ := all M hI.2
    refine ⟨jm_up M 189 r (tbO S w h (ms : Int) one sg cn (cn - r) r), ?_, fun j h1 h2 => ?_, fun a ha j => (up_ne ha).trans (hI.2 a ha j)⟩
    · show f_X2_costOf_b10 N shC (f_X2_costOf_l10 N shC n) 187 one (r : Int) M = _
      unfold f_X2_costOf_b10 f_X2_costOf_b35
      rw [if_neg (by omega), jrf_ok sC187, Option.bind_some, cf.t187_4, jlen_ok sC189 (by decide) (by decide) (by decide), Option.bind_some, if_pos (by omega), Option.bind_some, cf.t187_4, jck_ok sC187, Option.bind_some, s_costNode ht cf hX ct z0 so z2 hr, Option.bind_some, jwa_ok sC189 (by omega) (by omega), Option.bind_some, Int.toNat_natCast, jw_eq (by omega) (by omega), tbO_at hr, ncO_congr hX hr (T := fun j => M 189 j) (U := tbO S w h (ms : Int) one sg cn (cn - (r + 1))) (fun j h1 h2 => hI.1 j (by omega) h2)]
      rfl
    · by_cases c : j = r
      · rw [c]; exact up_eq
      · rw [up_nk c, tbO_ne hr c]; exact hI.1 j (by omega) h2) cn N m (Nat.le_refl _) (by omega) ⟨fun j h1 h2 => by omega, fun _ _ _ => rfl⟩
  have e : f_X2_costOf_l10 N shC N 187 one ((cn : Int) - 1) m = f_X2_costOf_l10 N shC (n' + 1) 187 one (-1) M := e
  obtain ⟨cf, ct, z0, so, z2⟩ := all M q.2
  refine ⟨M, ?_, cf, q.2⟩
  unfold f_X2_costOf
  rw [jrf_ok sC187, Option.bind_some, et, jrf_ok t1, Option.bind_some, hC.1, jw_eq (by omega) (by omega), e]
  show f_X2_costOf_b10 N shC (f_X2_costOf_l10 N shC n') 187 one (-1) M = _
  unfold f_X2_costOf_b10
  have e0 : f_X2_costAt shC 187 0 M = some (M 189 0) := by
    have := s_costAt ht cf hcn ct z0 0
    rw [if_pos (by omega)] at this
    exact this
  rw [if_pos (by decide), jck_ok sC187, Option.bind_some, e0, Option.bind_some, q.1 0 (Nat.le_refl _) (by omega), Nat.sub_zero]
