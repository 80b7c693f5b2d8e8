theorem sM_states {N S w h : Nat} {m : jm_M} (hN : 10 ≤ N) (hF : MF m) (hs : SMm m S w h) (hS : isS S) : f_X12_states N shM 1 m = some (KN S : Int) := by
  have hle := hS.le
  have hK : KN S = bsD (nS S) ^ S := by rcases hS with rfl | rfl | rfl <;> decide
  have hb : bsD (nS S) ≤ 65 := by rcases hS with rfl | rfl | rfl <;> decide
  have hKl := KN_le hS
  have key : ∀ (r t n : Nat), t + r = S → r < n → f_X12_states_l4 N shM n 1 ((bsD (nS S) ^ t : Nat) : Int) (t : Int) m = some (KN S : Int) := by
    intro r
    induction r with
    | zero =>
      intro t n ht hn
      obtain ⟨n, rfl⟩ : ∃ n', n = n' + 1 := ⟨n - 1, by omega⟩
      show f_X12_states_b4 N shM (fun a0 x1 x2 => f_X12_states_l4 N shM n a0 x1 x2 m) 1 _ (t : Int) m = _
      unfold f_X12_states_b4
      rw [jrf_ok sM1, Option.bind_some, hF.t0, jra_ok sM2 (by decide) (by decide), Option.bind_some, show (0 : Int).toNat = 0 from rfl, hs.1, if_neg (by omega), hK, show t = S by omega]
    | succ r ih =>
      intro t n ht hn
      obtain ⟨n, rfl⟩ : ∃ n', n = n' + 1 := ⟨n - 1, by omega⟩
      have hp : bsD (nS S) ^ (t + 1) ≤ 625 := by
        have h1 : 1 ≤ bsD (nS S) := by unfold bsD; omega
        have := Nat.pow_le_pow_right h1 (show t + 1 ≤ S by omega)
        rw [← hK] at this
        omega
      show f_X12_states_b4 N shM (fun a0 x1 x2 => f_X12_states_l4 N shM n a0 x1 x2 m) 1 _ (t : Int) m = _
      unfold f_X12_states_b4
      have ep : ((bsD (nS S) ^ t : Nat) : Int) * (bsD (nS S) : Int) = ((bsD (nS S) ^ (t + 1) : Nat) : Int) := by rw [Nat.pow_succ]; omega
      rw [jrf_ok sM1, Option.bind_some, hF.t0, jra_ok sM2 (by decide) (by decide), Option.bind_some, show (0 : Int).toNat = 0 from rfl, hs.1, if_pos (by omega), jck_ok sM1, Option.bind_some, sM_statesOfSet hF hs hS, Option.bind_some, ep, jw_nat (by omega), jw_succ (by omega)]
      exact ih (t + 1) n (by omega) (by omega)
  have := key S 0 N (by omega) (by omega)
  rw [Nat.pow_zero] at this
  exact this
/-- what work leaves alone -/
def FrM (m M : jm_M) : Prop := (∀ a, a ≠ 1 → a ≠ 10 → a ≠ 11 → a ≠ 12 → a ≠ 13 → a ≠ 14 → a ≠ 15 → a ≠ 17 → ∀ j, M a j = m a j) ∧ (∀ j, j ≠ 10 → j ≠ 12 → j ≠ 18 → j ≠ 19 → j ≠ 22 → j ≠ 23 → j ≠ 25 → M 1 j = m 1 j)
def T0 : Tb := fun k => if k = 0 then 0 else -1
theorem sM_work {N p cn : Nat} {sg : Nat → Int} {S w h ms : Nat} {W : Bool} {fs : List Nat} {m : jm_M} (hN : 10000 ≤ N) (hF : MF m) (hp : p < 4) (hT : ST S w h) (hms : ms ≤ 20) (hX : TX cn sg) (hs : SMm m S w h) (h2 : m 2 2 = (ms : Int)) (htx : ∀ i, i < cn → m 5 (30 * p + i) = sg i ∧ m 6 (30 * p + i) = (zs sg 4 i : Int)) (h20 : m 1 20 = (fs.length : Int)) (hfs : FSm m 0 fs) (hlen : fs.length ≤ 21) (hok : okF fs) :
    ∃ M, f_X12_work N shM 1 (p : Int) (if W then 1 else 0) m = some M ∧ GW M p cn sg S w h ms W ∧ WT M S (wk W S w h ms sg 4 0 (T0, fs, -6)) ∧ FrM m M := by
  obtain ⟨n10, n12, n26, n18, n19, n20, n22, n23, n25⟩ := n1M
  have w10 : rM 10 = true := rM_rows.2.2.2.2.2.2.2.2.1
  have hKl := KN_le hT.1
  let ma : jm_M := jm_up (jm_up m 1 18 (KN S : Int)) 1 19 (if W then 1 else 0)
  have hFa : MF ma := (hF.up n18).up n19
  have ka : ∀ a, a ≠ 1 → ∀ j, ma a j = m a j := fun a ha j => by show jm_up _ _ _ _ _ _ = _; rw [up_ne ha, up_ne ha]
  have ka1 : ∀ j, j ≠ 18 → j ≠ 19 → ma 1 j = m 1 j := fun j h1 h2 => by show jm_up _ _ _ _ _ _ = _; rw [up_nk h2, up_nk h1]
  have e18 : ma 1 18 = (KN S : Int) := by show jm_up _ _ _ _ _ _ = _; rw [up_nk (by decide), up_eq]
  have e19 : ma 1 19 = (if W then 1 else 0) := up_eq
  obtain ⟨m1, n1, e1, i1, i2, i3⟩ := loopN (fun g x m => f_X12_work_l15 N shM g 1 (p : Int) x m) (KN S) (fun k M => MF M ∧ (∀ j, j < k → M 10 j = T0 j) ∧ (∀ a, a ≠ 10 → ∀ j, M a j = ma a j)) (by
    intro n k M hk ⟨k1, k2, k3⟩
    refine ⟨jm_up M 10 k (T0 k), ?_, k1.upr w10, fun j hj => ?_, fun a ha j => (up_ne ha).trans (k3 a ha j)⟩
    · show f_X12_work_b15 N shM (f_X12_work_l15 N shM n) 1 (p : Int) k M = _
      unfold f_X12_work_b15 f_X12_work_b37
      rw [jrf_ok sM1, Option.bind_some, k3 1 (by omega), e18, if_pos (by omega), jrf_ok sM1, Option.bind_some, k1.t11, jw_succ (by omega)]
      unfold T0
      by_cases c : k = 0
      · rw [if_pos (by omega), if_pos c, jwa_ok sM10 (by omega) (by omega), Option.bind_some, Int.toNat_natCast]
      · rw [if_neg (by omega), if_neg c, jwa_ok sM10 (by omega) (by omega), Option.bind_some, Int.toNat_natCast]
    · rw [up_row]
      by_cases c : j = k
      · rw [if_pos c, c]
      · rw [if_neg c]; exact k2 j (by omega)) 0 N ma (Nat.zero_le _) (by omega) ⟨hFa, fun i hi => absurd hi (Nat.not_lt_zero i), fun _ _ _ => rfl⟩
  let mb : jm_M := jm_up (jm_up (jm_up (jm_up m1 1 12 0) 1 22 0) 1 23 (-6)) 1 25 ((30 * p + 0 : Nat) : Int)
  have hFb : MF mb := (((i1.up n12).up n22).up n23).up n25
  have kb : ∀ a, a ≠ 1 → ∀ j, mb a j = m1 a j := fun a ha j => by show jm_up _ _ _ _ _ _ = _; rw [up_ne ha, up_ne ha, up_ne ha, up_ne ha]
  have kb1 : ∀ j, j ≠ 12 → j ≠ 22 → j ≠ 23 → j ≠ 25 → mb 1 j = ma 1 j := fun j h1 h2 h3 h4 => by show jm_up _ _ _ _ _ _ = _; rw [up_nk h4, up_nk h3, up_nk h2, up_nk h1, i3 1 (by decide)]
  have rows : ∀ a, a ≠ 1 → a ≠ 10 → ∀ j, mb a j = m a j := fun a h1 h2 j => by rw [kb a h1, i3 a h2, ka a h1]
  have hGb : GW mb p cn sg S w h ms W := ⟨hFb, hs.same (rows 2 (by decide) (by decide)), by rw [rows 2 (by decide) (by decide)]; exact h2, fun i hi => by rw [rows 5 (by decide) (by decide), rows 6 (by decide) (by decide)]; exact htx i hi, by rw [kb1 18 (by decide) (by decide) (by decide) (by decide)]; exact e18, by rw [kb1 19 (by decide) (by decide) (by decide) (by decide)]; exact e19⟩
  have hWb : WT mb S (T0, fs, -6) := by
    refine ⟨fun k hk => by rw [kb 10 (by decide)]; exact i2 k hk, ?_, 0, ?_, ?_, FSm.same (rows 16 (by decide) (by decide)) _ _ hfs, by show 0 + fs.length ≤ 21; omega⟩
    · show jm_up _ _ _ _ _ _ = _; rw [up_nk (by decide), up_eq]
    · show jm_up _ _ _ _ _ _ = _; rw [up_nk (by decide), up_nk (by decide), up_eq]; rfl
    · rw [kb1 20 (by decide) (by decide) (by decide) (by decide), ka1 20 (by decide) (by decide), h20]
      show (fs.length : Int) = ((0 + fs.length : Nat) : Int)
      rw [Nat.zero_add]
  have hst : stp 4 = 1561 := by decide
  have h4 : (ms + 1) * 4 ^ 4 ≤ 21 * 4 ^ 4 := Nat.mul_le_mul_right _ (by omega)
  obtain ⟨M, n', r1, r2, r3, r4, r5, r6, r7⟩ := work_all (N := N) (W := W) (by omega) hp hT hms hX 4 (Nat.le_refl 4) 0 hX.2.1 0 N 0 (T0, fs, -6) mb (by decide) (by rw [hX.2.2]; omega) hok (fun k _ => by show T0 k ≤ _; unfold T0; split <;> decide) (by omega) hGb hWb (by show jm_up _ _ _ _ _ _ = _; rw [up_nk (by decide), up_nk (by decide), up_nk (by decide), up_eq]; rfl) up_eq (by omega)
  obtain ⟨n', rfl⟩ : ∃ n2, n' = n2 + 1 := ⟨n' - 1, by omega⟩
  refine ⟨M, ?_, r3, r4, fun a a1 a2 a3 a4 a5 a6 a7 a8 j => by rw [r7.1 a a1 a2 a3 a4 a5 a6 a7 a8 j]; exact rows a a1 a2 j, fun j a1 a2 a3 a4 a5 a6 a7 => by rw [r7.2.1 j a1 a2 a5 a6 a7, kb1 j a2 a5 a6 a7]; exact ka1 j a3 a4⟩
  have hz : jzb (if W then 1 else 0) = some (if W then 1 else 0) := by cases W <;> rfl
  unfold f_X12_work
  rw [jck_ok sM1, Option.bind_some, sM_states (by omega) hF hs hT.1, Option.bind_some, jwf_ok sM1, Option.bind_some, hz, Option.bind_some, jwf_ok sM1, Option.bind_some]
  show f_X12_work_l15 N shM N 1 (p : Int) ((0 : Nat) : Int) ma = _
  rw [e1]
  show f_X12_work_b15 N shM (f_X12_work_l15 N shM n1) 1 (p : Int) (KN S : Int) m1 = _
  unfold f_X12_work_b15
  rw [jrf_ok sM1, Option.bind_some, i3 1 (by decide), e18, if_neg (by omega), jwf_ok sM1, Option.bind_some, jwf_ok sM1, Option.bind_some, jwf_ok sM1, Option.bind_some, jw_eq (by omega) (by omega), show 30 * (p : Int) = ((30 * p + 0 : Nat) : Int) by omega, jwf_ok sM1, Option.bind_some]
  show wl N N mb = some M
  rw [r1]
  show f_X12_work_b68 N shM (f_X12_work_l68 N shM n') 1 M = _
  unfold f_X12_work_b68
  rw [jrf_ok sM1, Option.bind_some, r6, if_pos (by decide), jrf_ok sM1, Option.bind_some, r5, if_neg (by omega)]
/-! the best of a table -/
def bst (W : Bool) (T : Tb) : Nat → Int
  | 0 => -1
  | n + 1 => if btr W (T n) (bst W T n) then T n else bst W T n
theorem bst_congr {W : Bool} {T U : Tb} : ∀ n, (∀ k, k < n → T k = U k) → bst W T n = bst W U n := by
  intro n
  induction n with
  | zero => intro _; rfl
  | succ n ih =>
    intro hk
    show (if btr W (T n) (bst W T n) then T n else bst W T n) = (if btr W (U n) (bst W U n) then U n else bst W U n)
    rw [hk n (by omega), ih (fun k h => hk k (by omega))]
theorem sM_bestOf {N K : Nat} {m : jm_M} {W : Bool} (hN : 1000 ≤ N) (hF : MF m) (hK : m 1 18 = (K : Int)) (hK6 : K ≤ 625) (h19 : m 1 19 = (if W then 1 else 0)) : f_X12_bestOf N shM 1 m = some (bst W (fun k => m 10 k) K) := by
  have key : ∀ (r k n : Nat), k + r = K → r < n → f_X12_bestOf_l4 N shM n 1 (bst W (fun k => m 10 k) k) (k : Int) m = some (bst W (fun k => m 10 k) K) := by
    intro r
    induction r with
    | zero =>
      intro k n hk hn
      obtain ⟨n, rfl⟩ : ∃ n', n = n' + 1 := ⟨n - 1, by omega⟩
      show f_X12_bestOf_b4 N shM (fun a0 x1 x2 => f_X12_bestOf_l4 N shM n a0 x1 x2 m) 1 _ (k : Int) m = _
      unfold f_X12_bestOf_b4
      rw [jrf_ok sM1, Option.bind_some, hK, if_neg (by omega), show k = K by omega]
    | succ r ih =>
      intro k n hk hn
      obtain ⟨n, rfl⟩ : ∃ n', n = n' + 1 := ⟨n - 1, by omega⟩
      show f_X12_bestOf_b4 N shM (fun a0 x1 x2 => f_X12_bestOf_l4 N shM n a0 x1 x2 m) 1 _ (k : Int) m = _
      unfold f_X12_bestOf_b4 f_X12_bestOf_b36
      rw [jrf_ok sM1, Option.bind_some, hK, if_pos (by omega), jrf_ok sM1, Option.bind_some, hF.t11, jra_ok sM10 (by omega) (by omega), Option.bind_some, Int.toNat_natCast, jck_ok sM1, Option.bind_some, sM_isBetter h19, Option.bind_some, ifb, Option.bind_some, hF.t11, jra_ok sM10 (by omega) (by omega), Option.bind_some, Int.toNat_natCast, jw_succ (by omega)]
      have ih' := ih (k + 1) n (by omega) (by omega)
      have eb : bst W (fun k => m 10 k) (k + 1) = if btr W (m 10 k) (bst W (fun k => m 10 k) k) then m 10 k else bst W (fun k => m 10 k) k := rfl
      rw [eb] at ih'
      by_cases c : btr W (m 10 k) (bst W (fun k => m 10 k) k) = true
      · rw [if_pos c] at ih' ⊢; exact ih'
      · rw [if_neg c] at ih' ⊢; exact ih'
  exact key K 0 N (by omega) (by omega)
/-- the best of a best table is the best of all -/
theorem bst_spec {W : Bool} {K : Nat} {A : SX} {T : Tb} (h : BO W K A T) : ∀ n, n ≤ K → (bst W T n = -1 ∧ ∀ k v, k < n → ¬ A k v) ∨ ∃ k v : Nat, k < n ∧ bst W T n = (v : Int) ∧ A k v ∧ ∀ k' v', k' < n → A k' v' → gd W v v' := by
  intro n
  induction n with
  | zero => intro _; exact Or.inl ⟨rfl, fun k v hk => absurd hk (Nat.not_lt_zero _)⟩
  | succ n ih =>
    intro hn
    have eb : bst W T (n + 1) = if btr W (T n) (bst W T n) then T n else bst W T n := rfl
    rw [eb]
    rcases ih (by omega) with ⟨a1, a2⟩ | ⟨k, v, a1, a2, a3, a4⟩
    · rcases h n (by omega) with ⟨b1, b2⟩ | ⟨u, b1, b2, b3⟩
      · refine Or.inl ⟨?_, fun k v hk q => ?_⟩
        · rw [a1, b1]; unfold btr; simp
        · by_cases c : k = n
          · subst c; exact b2 v q
          · exact a2 k v (by omega) q
      · refine Or.inr ⟨n, u, by omega, ?_, b2, fun k' v' hk q => ?_⟩
        · rw [a1, b1]
          have : btr W (u : Int) (-1) = true := by unfold btr; simp
          rw [if_pos this]
        · by_cases c : k' = n
          · subst c; exact b3 v' q
          · exact absurd q (a2 k' v' (by omega))
    · rcases h n (by omega) with ⟨b1, b2⟩ | ⟨u, b1, b2, b3⟩
      · refine Or.inr ⟨k, v, by omega, ?_, a3, fun k' v' hk q => ?_⟩
        · rw [a2, b1]
          have : btr W (-1) (v : Int) = false := by unfold btr; rw [if_neg (by omega)]; simp
          rw [if_neg (by rw [this]; decide)]
        · by_cases c : k' = n
          · subst c; exact absurd q (b2 v')
          · exact a4 k' v' (by omega) q
      · have hb := btr_nn (W := W) (a := u) (b := v)
        rw [a2, b1]
        cases e : btr W (u : Int) (v : Int) with
        | true =>
          have g := hb.1 e
          rw [if_pos rfl]
          refine Or.inr ⟨n, u, by omega, rfl, b2, fun k' v' hk q => ?_⟩
          by_cases c : k' = n
          · subst c; exact b3 v' q
          · exact gd_trans g (a4 k' v' (by omega) q)
        | false =>
          have g := hb.2 e
          rw [if_neg (by decide)]
          refine Or.inr ⟨k, v, by omega, rfl, a3, fun k' v' hk q => ?_⟩
          by_cases c : k' = n
          · subst c; exact gd_trans g (b3 v' q)
          · exact a4 k' v' (by omega) q
theorem Rx_some {S w h ms : Nat} {sg : Nat → Int} : ∀ d i k, ∃ k' c, Rx S w h ms sg d i k k' c := by
  have hL : ∀ s k, ∃ k' c, LfX S w h ms s k k' c := fun s k => by
    unfold LfX
    by_cases c : 48 ≤ s ∧ s ≤ 55
    · exact ⟨_, _, by rw [if_pos c]; exact ⟨rfl, rfl⟩⟩
    · exact ⟨_, _, by rw [if_neg c]; exact ⟨rfl, rfl⟩⟩
  intro d
  induction d with
  | zero => intro i k; exact hL _ k
  | succ d ih =>
    intro i k
    by_cases c1 : sg i = 59
    · rw [Rx_seq c1]
      obtain ⟨k1, v1, a⟩ := ih (i + 1) k
      obtain ⟨k2, v2, b⟩ := ih (nx sg i) k1
      exact ⟨k2, v1 + v2, k1, v1, v2, a, b, rfl⟩
    · by_cases c2 : sg i = 63
      · rw [Rx_cho c2]
        obtain ⟨k1, v1, a⟩ := ih (i + 1) k
        exact ⟨k1, v1, Or.inl a⟩
      · by_cases c3 : 98 ≤ sg i ∧ sg i ≤ 100
        · rw [Rx_loop c3]
          exact ⟨k, 0, 0, Nat.zero_le _, rfl, rfl⟩
        · have e : Rx S w h ms sg (d + 1) i = LfX S w h ms (sg i) := by
            show (if sg i = 59 then _ else if sg i = 63 then _ else if 98 ≤ sg i ∧ sg i ≤ 100 then _ else _) = _
            rw [if_neg c1, if_neg c2, if_neg c3]
          rw [e]
          exact hL _ k
/-- all runs of a program from the empty shelf -/
def AX (S w h ms : Nat) (sg : Nat → Int) : SX := fun k v => Rx S w h ms sg 4 0 0 k v
theorem BO_T0 {W : Bool} {K : Nat} : BO W K (fun k v => k = 0 ∧ v = 0) T0 := by
  intro k hk
  unfold T0
  by_cases c : k = 0
  · rw [if_pos c]; exact Or.inr ⟨0, rfl, ⟨c, rfl⟩, fun v' q => by rw [q.2]; exact gd_refl⟩
  · rw [if_neg c]; exact Or.inl ⟨rfl, fun v q => c q.1⟩
theorem wk_AX {W : Bool} {S w h ms cn : Nat} {sg : Nat → Int} (hT : ST S w h) (hX : TX cn sg) {fm : Int} : BO W (KN S) (AX S w h ms sg) (wk W S w h ms sg 4 0 (T0, [], fm)).1 := by
  have hK := KN_le hT.1
  refine (wk_free (W := W) (ms := ms) hT 4 (Nat.le_refl 4) 0 hX.2.1 (fun k v => k = 0 ∧ v = 0) T0 fm (fun k v q => by rw [q.1]; omega) BO_T0).1.ext fun k v _ => ⟨fun ⟨k1, v1, c, a, b, e⟩ => ?_, fun q => ⟨0, 0, v, ⟨rfl, rfl⟩, q, by omega⟩⟩
  rw [a.1] at b
  rw [e, a.2, Nat.zero_add]
  exact b
