/-! counting by a one-to-one row -/
theorem cnt_rm {P : Nat → Bool} {a : Nat} : ∀ K, a < K → P a = true → cnt P K = cnt (fun s => P s && !decide (s = a)) K + 1 := by
  intro K
  induction K with
  | zero => intro h; omega
  | succ K ih =>
    intro ha hp
    show cnt P K + (if P K then 1 else 0) = cnt (fun s => P s && !decide (s = a)) K + (if (P K && !decide (K = a)) then 1 else 0) + 1
    by_cases c : K = a
    · subst c
      have e : cnt P K = cnt (fun s => P s && !decide (s = K)) K := cnt_congr fun i hi => by
        have : decide (i = K) = false := decide_eq_false (by omega)
        rw [this]; simp
      rw [← e, hp]
      simp
    · rw [ih (by omega) hp]
      have : decide (K = a) = false := decide_eq_false c
      rw [this]
      simp
      omega
theorem cnt_none {P : Nat → Bool} : ∀ K, (∀ s, s < K → P s = false) → cnt P K = 0 := by
  intro K
  induction K with
  | zero => intro _; rfl
  | succ K ih =>
    intro h
    show cnt P K + (if P K then 1 else 0) = 0
    rw [ih (fun s hs => h s (by omega)), h K (by omega)]
    rfl
theorem cnt_bij {f : Nat → Nat} : ∀ (n K : Nat) (P : Nat → Bool), (∀ i, i < n → f i < K ∧ P (f i) = true) → (∀ i j, i < n → j < n → f i = f j → i = j) → (∀ s, s < K → P s = true → ∃ i, i < n ∧ f i = s) → cnt P K = n := by
  intro n
  induction n with
  | zero =>
    intro K P _ _ h
    refine cnt_none K fun s hs => ?_
    cases q : P s with
    | false => rfl
    | true => obtain ⟨i, hi, _⟩ := h s hs q; omega
  | succ n ih =>
    intro K P h1 h2 h3
    have a := h1 n (by omega)
    rw [cnt_rm K a.1 a.2]
    rw [ih K (fun s => P s && !decide (s = f n)) (fun i hi => ⟨(h1 i (by omega)).1, by
      have : decide (f i = f n) = false := decide_eq_false (fun q => by have := h2 i n (by omega) (by omega) q; omega)
      show (P (f i) && !decide (f i = f n)) = true
      rw [(h1 i (by omega)).2, this]; rfl⟩) (fun i j hi hj q => h2 i j (by omega) (by omega) q) (fun s hs q => by
      have q : (P s && !decide (s = f n)) = true := q
      rw [Bool.and_eq_true] at q
      obtain ⟨i, hi, e⟩ := h3 s hs q.1
      refine ⟨i, ?_, e⟩
      by_cases c : i = n
      · subst c
        have : decide (s = f i) = true := decide_eq_true e.symm
        rw [this] at q
        exact absurd q.2 (by decide)
      · omega)]
theorem cnt_ltK {P : Nat → Bool} {a : Nat} : ∀ K, a < K → P a = false → cnt P K < K := by
  intro K
  induction K with
  | zero => intro h; omega
  | succ K ih =>
    intro ha hp
    show cnt P K + (if P K then 1 else 0) < K + 1
    by_cases c : K = a
    · subst c
      have := cnt_le P K
      rw [hp]
      simp
      omega
    · have := ih (by omega) hp
      split <;> omega
/-! rows of shelves reached -/
theorem rr_sh {m : jm_M} (h : CF m) : ∀ r ∈ rrL, shC r = (4, 4) ∧ shC (r + 1) = (13, 625) ∧ shC (r + 2) = (13, 625) ∧ shC (r + 3) = (13, 625) ∧ m r 1 = ((r + 1 : Nat) : Int) ∧ m r 2 = ((r + 2 : Nat) : Int) ∧ m r 3 = ((r + 3 : Nat) : Int) := by
  intro r hr
  simp only [rrL, List.mem_cons, List.not_mem_nil, or_false] at hr
  rcases hr with rfl | rfl | rfl | rfl | rfl | rfl | rfl
  · exact ⟨sC83, sC84, sC85, sC86, h.f83_1, h.f83_2, h.f83_3⟩
  · exact ⟨sC87, sC88, sC89, sC90, h.f87_1, h.f87_2, h.f87_3⟩
  · exact ⟨sC92, sC93, sC94, sC95, h.f92_1, h.f92_2, h.f92_3⟩
  · exact ⟨sC96, sC97, sC98, sC99, h.f96_1, h.f96_2, h.f96_3⟩
  · exact ⟨sC100, sC101, sC102, sC103, h.f100_1, h.f100_2, h.f100_3⟩
  · exact ⟨sC104, sC105, sC106, sC107, h.f104_1, h.f104_2, h.f104_3⟩
  · exact ⟨sC108, sC109, sC110, sC111, h.f108_1, h.f108_2, h.f108_3⟩
theorem rr_nC : ∀ r ∈ rrL, nC r 0 = true ∧ rC (r + 1) = true ∧ rC (r + 2) = true ∧ rC (r + 3) = true := by decide
/-- a row with n entries: shelf, cost; places -/
def RN (m : jm_M) (r n : Nat) : Prop := n ≤ 625 ∧ m r 0 = (n : Int) ∧ (∀ i, i < n → 0 ≤ m (r + 1) i ∧ m (r + 1) i < 625 ∧ m (r + 3) (m (r + 1) i).toNat = (i : Int) + 1) ∧ ∀ s, s < 625 → m (r + 3) s ≠ 0 → ∃ i, i < n ∧ m (r + 3) s = (i : Int) + 1 ∧ m (r + 1) i = (s : Int)
theorem RN.lt {m : jm_M} {r n c : Nat} (h : RN m r n) (hc : c < 625) (h0 : m (r + 3) c = 0) : n < 625 := by
  obtain ⟨h1, h2, h3, h4⟩ := h
  have e : cnt (fun s => decide (m (r + 3) s ≠ 0)) 625 = n := by
    refine cnt_bij (f := fun i => (m (r + 1) i).toNat) n 625 _ (fun i hi => ?_) (fun i j hi hj q => ?_) (fun s hs q => ?_)
    · have a := h3 i hi
      exact ⟨by show (m (r + 1) i).toNat < 625; omega, decide_eq_true (by rw [a.2.2]; omega)⟩
    · have a := h3 i hi
      have b := h3 j hj
      have q : (m (r + 1) i).toNat = (m (r + 1) j).toNat := q
      rw [q] at a
      have := a.2.2.symm.trans b.2.2
      omega
    · obtain ⟨i, hi, _, e⟩ := h4 s hs (of_decide_eq_true q)
      exact ⟨i, hi, by show (m (r + 1) i).toNat = s; omega⟩
  rw [← e]
  exact cnt_ltK 625 hc (decide_eq_false (fun q => q h0))
def RB (m : jm_M) (r n : Nat) (S w h cr : Nat) (W : Bool) (A : SX) : Prop := RN m r n ∧ (∀ i, i < n → ∃ k v c : Nat, m (r + 1) i = (c : Int) ∧ Rk S w h cr k c ∧ m (r + 2) i = (v : Int) ∧ A k v ∧ ∀ v', A k v' → gd W v v') ∧ ∀ k v, A k v → ∃ i c : Nat, i < n ∧ m (r + 1) i = (c : Int) ∧ Rk S w h cr k c
theorem RB.dom {m : jm_M} {r n S w h cr : Nat} {W : Bool} {E A : SX} (hb : RB m r n S w h cr W E) (h1 : ∀ k v, E k v → A k v) (h2 : ∀ k v, A k v → ∃ v0, E k v0 ∧ gd W v0 v) : RB m r n S w h cr W A := by
  obtain ⟨a, b, c⟩ := hb
  refine ⟨a, fun i hi => ?_, fun k v q => ?_⟩
  · obtain ⟨k, v, cc, e1, e2, e3, e4, e5⟩ := b i hi
    refine ⟨k, v, cc, e1, e2, e3, h1 k v e4, fun v' q => ?_⟩
    obtain ⟨v0, f1, f2⟩ := h2 k v' q
    exact gd_trans (e5 v0 f1) f2
  · obtain ⟨v0, f1, f2⟩ := h2 k v q
    exact c k v0 f1
theorem RB.ext {m : jm_M} {r n S w h cr : Nat} {W : Bool} {E A : SX} (hb : RB m r n S w h cr W E) (he : ∀ k v, E k v ↔ A k v) : RB m r n S w h cr W A := hb.dom (fun k v q => (he k v).mp q) (fun k v q => ⟨v, (he k v).mpr q, gd_refl⟩)
theorem RB.same {m m' : jm_M} {r n S w h cr : Nat} {W : Bool} {A : SX} (hb : RB m r n S w h cr W A) (hs : ∀ a, r ≤ a → a ≤ r + 3 → ∀ j, m' a j = m a j) : RB m' r n S w h cr W A := by
  obtain ⟨⟨a1, a2, a3, a4⟩, b, c⟩ := hb
  have e0 := hs r (by omega) (by omega)
  have e1 := hs (r + 1) (by omega) (by omega)
  have e2 := hs (r + 2) (by omega) (by omega)
  have e3 := hs (r + 3) (by omega) (by omega)
  refine ⟨⟨a1, by rw [e0]; exact a2, fun i hi => by rw [e1, e3]; exact a3 i hi, fun s hs' => by rw [e3]; intro q; obtain ⟨i, b1, b2, b3⟩ := a4 s hs' q; exact ⟨i, b1, b2, by rw [e1]; exact b3⟩⟩, fun i hi => ?_, fun k v q => ?_⟩
  · rw [e1, e2]; exact b i hi
  · obtain ⟨i, cc, f1, f2, f3⟩ := c k v q
    exact ⟨i, cc, f1, by rw [e1]; exact f2, f3⟩
theorem RN.RR {m : jm_M} {r n : Nat} (h : RN m r n) : RR m r := ⟨n, h.1, h.2.1, h.2.2.1, h.2.2.2⟩
/-- frames of a write into a row of shelves -/
def FrR (m M : jm_M) (r : Nat) : Prop := (∀ a, a < r ∨ r + 3 < a → ∀ j, M a j = m a j) ∧ ∀ j, j ≠ 0 → M r j = m r j
theorem FrR.CF {m M : jm_M} {r : Nat} (hf : FrR m M r) (hr : r ∈ rrL) (hF : CF m) : CF M := by
  obtain ⟨n0, n1, n2, n3⟩ := rr_nC r hr
  refine hF.same fun q hq => ?_
  have h0 := List.all_eq_true.mp n0 q hq
  have h1 := List.all_eq_true.mp n1 q hq
  have h2 := List.all_eq_true.mp n2 q hq
  have h3 := List.all_eq_true.mp n3 q hq
  simp only [Bool.not_eq_true', beq_eq_false_iff_ne, Bool.and_eq_false_iff] at h0 h1 h2 h3
  by_cases c : q.1 = r
  · rw [c]; exact hf.2 _ (by omega)
  · exact hf.1 _ (by omega) _
theorem FrR.up {m M : jm_M} {r a j : Nat} {v : Int} (hf : FrR m M r) (ha : r < a ∧ a ≤ r + 3) : FrR m (jm_up M a j v) r := ⟨fun b hb i => (up_ne (by omega)).trans (hf.1 b hb i), fun i hi => (up_ne (by omega)).trans (hf.2 i hi)⟩
theorem FrR.up0 {m M : jm_M} {r : Nat} {v : Int} (hf : FrR m M r) : FrR m (jm_up M r 0 v) r := ⟨fun b hb i => (up_ne (by omega)).trans (hf.1 b hb i), fun i hi => (up_nk hi).trans (hf.2 i hi)⟩
theorem FrR.rf (m : jm_M) (r : Nat) : FrR m m r := ⟨fun _ _ _ => rfl, fun _ _ => rfl⟩
theorem FrR.tr {m m1 m2 : jm_M} {r : Nat} (h1 : FrR m m1 r) (h2 : FrR m1 m2 r) : FrR m m2 r := ⟨fun a ha j => (h2.1 a ha j).trans (h1.1 a ha j), fun j hj => (h2.2 j hj).trans (h1.2 j hj)⟩
theorem s_clear {N r : Nat} {m : jm_M} {S w h cr : Nat} {W : Bool} (hN : 1000 ≤ N) (hr : r ∈ rrL) (hF : CF m) (hR : RR m r) : ∃ M, f_X4_clear N shC r m = some M ∧ RB M r 0 S w h cr W (fun _ _ => False) ∧ FrR m M r := by
  obtain ⟨n, h1, h2, h3, h4⟩ := hR
  obtain ⟨s0, s1, s2, s3, p1, p2, p3⟩ := rr_sh hF r hr
  obtain ⟨M, n1, e1, i1, i2, i3, i4⟩ := loopN (fun g x m => f_X4_clear_l2 N shC g r x m) n (fun k M => CF M ∧ (∀ a, a ≠ r + 3 → ∀ j, M a j = m a j) ∧ (∀ s, s < 625 → M (r + 3) s ≠ 0 → M (r + 3) s = m (r + 3) s ∧ ∃ i, k ≤ i ∧ i < n ∧ m (r + 3) s = (i : Int) + 1) ∧ True) (by
    intro g k M hk ⟨g1, g2, g3, _⟩
    have a := h3 k hk
    obtain ⟨c, hc⟩ : ∃ c : Nat, m (r + 1) k = (c : Int) := ⟨(m (r + 1) k).toNat, by omega⟩
    have q1 := (rr_sh g1 r hr).2.2.2.2.1
    have q3 := (rr_sh g1 r hr).2.2.2.2.2.2
    refine ⟨jm_up M (r + 3) c 0, ?_, g1.up (nC_of (rr_nC r hr).2.2.2 _), fun b hb j => (up_ne hb).trans (g2 b hb j), fun s hs hne => ?_, trivial⟩
    · show f_X4_clear_b2 N shC (f_X4_clear_l2 N shC g) r k M = _
      unfold f_X4_clear_b2 f_X4_clear_b42
      rw [jrf_ok s0, Option.bind_some, g2 r (by omega), h2, if_pos (by omega), if_pos (by omega), jrf_ok s0, Option.bind_some, q1, Int.toNat_natCast, jra_ok s1 (by omega) (by omega), Option.bind_some, Int.toNat_natCast, g2 (r + 1) (by omega), hc, if_neg (by omega), if_pos (by omega), jrf_ok s0, Option.bind_some, q3, Int.toNat_natCast, jwa_ok s3 (by omega) (by omega), Option.bind_some, Int.toNat_natCast, jw_succ (by omega)]
    · rw [up_row] at hne ⊢
      by_cases e : s = c
      · rw [if_pos e] at hne; exact absurd rfl hne
      · rw [if_neg e] at hne ⊢
        obtain ⟨b1, i, b2, b3, b4⟩ := g3 s hs hne
        refine ⟨b1, i, ?_, b3, b4⟩
        by_cases ik : i = k
        · subst ik
          obtain ⟨i', d1, d2, d3⟩ := h4 s hs (by rw [b4]; omega)
          have : i' = i := by omega
          subst this
          rw [hc] at d3
          omega
        · omega) 0 N m (Nat.zero_le _) (by omega) ⟨hF, fun _ _ _ => rfl, fun s hs hne => ⟨rfl, by obtain ⟨i, b1, b2, b3⟩ := h4 s hs hne; exact ⟨i, Nat.zero_le _, b1, b2⟩⟩, trivial⟩
  refine ⟨jm_up M r 0 0, ?_, ⟨⟨Nat.zero_le _, up_eq, fun i hi => absurd hi (Nat.not_lt_zero i), fun s hs hne => ?_⟩, fun i hi => absurd hi (Nat.not_lt_zero i), fun k v q => q.elim⟩, ?_⟩
  · show f_X4_clear_l2 N shC N r ((0 : Nat) : Int) m = _
    rw [e1]
    show f_X4_clear_b2 N shC (f_X4_clear_l2 N shC n1) r (n : Int) M = _
    unfold f_X4_clear_b2 f_X4_clear_b48
    rw [jrf_ok s0, Option.bind_some, i2 r (by omega), h2, if_neg (by omega), jwf_ok s0, Option.bind_some]
  · rw [up_ne (by omega)] at hne
    obtain ⟨_, i, b2, b3, _⟩ := i3 s hs hne
    omega
  · exact ⟨fun a ha j => (up_ne (by omega)).trans (i2 a (by omega) j), fun j hj => (up_nk hj).trans (i2 r (by omega) j)⟩
/-- one shelf more -/
theorem s_addR {r n : Nat} {m : jm_M} {S w h cr k v c : Nat} {W : Bool} {A : SX} (hr : r ∈ rrL) (hF : CF m) (hT : ST S w h) (hB : RB m r n S w h cr W A) (hR : Rk S w h cr k c) (hv : v ≤ 1000000) :
    ∃ M n', f_X4_add shC r (c : Int) (v : Int) (if W then 1 else 0) m = some M ∧ RB M r n' S w h cr W (uni A (fun k' v' => k' = k ∧ v' = v)) ∧ FrR m M r := by
  obtain ⟨s0, s1, s2, s3, p1, p2, p3⟩ := rr_sh hF r hr
  obtain ⟨nn0, nn1, nn2, nn3⟩ := rr_nC r hr
  obtain ⟨hN, hb, hc⟩ := id hB
  obtain ⟨a1, a2, a3, a4⟩ := id hN
  have hlt := hR.lt hT.2.1.2
  have hcn := CN_le (w := w) (h := h) (cr := cr) hT.1
  have hc6 : c < 625 := by omega
  by_cases h0 : m (r + 3) c = 0
  · -- a new one
    have hn := hN.lt hc6 h0
    have fresh : ∀ v', ¬ A k v' := fun v' q => by
      obtain ⟨i, cc, f1, f2, f3⟩ := hc k v' q
      have e := Rk.k_inj hR f3
      subst e
      have := (a3 i f1).2.2
      rw [f2, Int.toNat_natCast, h0] at this
      omega
    let m1 : jm_M := jm_up (jm_up (jm_up m (r + 1) n (c : Int)) (r + 2) n (v : Int)) r 0 ((n + 1 : Nat) : Int)
    have u1 : CF (jm_up m (r + 1) n (c : Int)) := hF.up (nC_of nn1 _)
    have u2 : CF (jm_up (jm_up m (r + 1) n (c : Int)) (r + 2) n (v : Int)) := u1.up (nC_of nn2 _)
    have u3 : CF m1 := u2.up nn0
    have q2 := (rr_sh u1 r hr).2.2.2.2.2.1
    have q3 := (rr_sh u3 r hr).2.2.2.2.2.2
    refine ⟨jm_up m1 (r + 3) c ((n + 1 : Nat) : Int), n + 1, ?_, ⟨⟨by omega, ?_, fun i hi => ?_, fun s hs hne => ?_⟩, fun i hi => ?_, fun k' v' q => ?_⟩, ?_⟩
    · unfold f_X4_add
      rw [if_neg (by omega), if_pos (by omega), jrf_ok s0, Option.bind_some, p3, Int.toNat_natCast, jra_ok s3 (by omega) (by omega), Option.bind_some, Int.toNat_natCast, h0, jw_eq (x := (0 : Int) - 1) (by decide) (by decide), if_pos (by decide)]
      unfold f_X4_add_b74
      rw [jrf_ok s0, Option.bind_some, a2, if_pos (by omega), jrf_ok s0, Option.bind_some, Option.bind_some, p1, Int.toNat_natCast, jwa_ok s1 (by omega) (by omega), Option.bind_some, Int.toNat_natCast, jrf_ok s0, Option.bind_some, jrf_ok s0, Option.bind_some, q2, Int.toNat_natCast, up_ne (by omega), a2, jwa_ok s2 (by omega) (by omega), Option.bind_some, Int.toNat_natCast, jrf_ok s0, Option.bind_some, up_ne (by omega), up_ne (by omega), a2, jw_succ (by omega), jwf_ok s0, Option.bind_some]
      rw [show jm_up (jm_up (jm_up m (r + 1) n (c : Int)) (r + 2) n (v : Int)) r 0 ((n + 1 : Nat) : Int) = m1 from rfl, jrf_ok s0, Option.bind_some, jrf_ok s0, Option.bind_some, q3, Int.toNat_natCast, (show m1 r 0 = ((n + 1 : Nat) : Int) from up_eq), jwa_ok s3 (by omega) (by omega), Option.bind_some, Int.toNat_natCast]
    · rw [up_ne (by omega)]; exact up_eq
    · rw [up_ne (show r + 1 ≠ r + 3 by omega)]
      show 0 ≤ jm_up (jm_up (jm_up m (r + 1) n (c : Int)) (r + 2) n (v : Int)) r 0 ((n + 1 : Nat) : Int) (r + 1) i ∧ _ ∧ _
      have e : m1 (r + 1) i = if i = n then (c : Int) else m (r + 1) i := by
        show jm_up _ _ _ _ _ _ = _
        rw [up_ne (by omega), up_ne (by omega), up_row]
      have e' : ∀ s, m1 (r + 3) s = m (r + 3) s := fun s => by
        show jm_up _ _ _ _ _ _ = _
        rw [up_ne (by omega), up_ne (by omega), up_ne (by omega)]
      show 0 ≤ m1 (r + 1) i ∧ m1 (r + 1) i < 625 ∧ jm_up m1 (r + 3) c ((n + 1 : Nat) : Int) (r + 3) (m1 (r + 1) i).toNat = _
      rw [e]
      by_cases ci : i = n
      · subst ci
        rw [if_pos rfl, Int.toNat_natCast, up_eq]
        exact ⟨by omega, by omega, by omega⟩
      · rw [if_neg ci, up_row]
        have a := a3 i (by omega)
        refine ⟨a.1, a.2.1, ?_⟩
        rw [if_neg (fun q => ?_), e']
        · exact a.2.2
        · rw [q, h0] at a; omega
    · have e' : ∀ s, m1 (r + 3) s = m (r + 3) s := fun s => by
        show jm_up _ _ _ _ _ _ = _
        rw [up_ne (by omega), up_ne (by omega), up_ne (by omega)]
      have e : ∀ i, m1 (r + 1) i = if i = n then (c : Int) else m (r + 1) i := fun i => by
        show jm_up _ _ _ _ _ _ = _
        rw [up_ne (by omega), up_ne (by omega), up_row]
      rw [up_row, e'] at hne ⊢
      by_cases cs' : s = c
      · subst cs'
        rw [if_pos rfl]
        exact ⟨n, by omega, by omega, by rw [up_ne (by omega), e, if_pos rfl]⟩
      · rw [if_neg cs'] at hne ⊢
        obtain ⟨i, b1, b2, b3⟩ := a4 s hs hne
        exact ⟨i, by omega, b2, by rw [up_ne (by omega), e, if_neg (by omega)]; exact b3⟩
    · have e : ∀ i, jm_up m1 (r + 3) c ((n + 1 : Nat) : Int) (r + 1) i = if i = n then (c : Int) else m (r + 1) i := fun i => by
        rw [up_ne (by omega)]
        show jm_up _ _ _ _ _ _ = _
        rw [up_ne (by omega), up_ne (by omega), up_row]
      have e2 : ∀ i, jm_up m1 (r + 3) c ((n + 1 : Nat) : Int) (r + 2) i = if i = n then (v : Int) else m (r + 2) i := fun i => by
        rw [up_ne (by omega)]
        show jm_up _ _ _ _ _ _ = _
        rw [up_ne (by omega), up_row, up_ne (by omega)]
      rw [e, e2]
      by_cases ci : i = n
      · rw [if_pos ci, if_pos ci]
        refine ⟨k, v, c, rfl, hR, rfl, Or.inr ⟨rfl, rfl⟩, fun v' q => ?_⟩
        rcases q with q | q
        · exact absurd q (fresh v')
        · rw [q.2]; exact gd_refl
      · rw [if_neg ci, if_neg ci]
        obtain ⟨k1, v1, c1, b1, b2, b3, b4, b5⟩ := hb i (by omega)
        refine ⟨k1, v1, c1, b1, b2, b3, Or.inl b4, fun v' q => ?_⟩
        rcases q with q | q
        · exact b5 v' q
        · have : k1 = k := q.1
          subst this
          exact absurd b4 (fresh v1)
    · have e : ∀ i, jm_up m1 (r + 3) c ((n + 1 : Nat) : Int) (r + 1) i = if i = n then (c : Int) else m (r + 1) i := fun i => by
        rw [up_ne (by omega)]
        show jm_up _ _ _ _ _ _ = _
        rw [up_ne (by omega), up_ne (by omega), up_row]
      rcases q with q | q
      · obtain ⟨i, cc, f1, f2, f3⟩ := hc k' v' q
        exact ⟨i, cc, by omega, by rw [e, if_neg (by omega)]; exact f2, f3⟩
      · have : k' = k := q.1
        subst this
        exact ⟨n, c, by omega, by rw [e, if_pos rfl], hR⟩
    · exact ((((FrR.rf m r).up (by omega)).up (by omega)).up0).up (by omega)
  · -- it stands there
    obtain ⟨i, b1, b2, b3⟩ := a4 c hc6 h0
    obtain ⟨k1, v1, c1, d1, d2, d3, d4, d5⟩ := hb i b1
    have ec : c1 = c := by rw [b3] at d1; omega
    subst ec
    have ek : k1 = k := Rk.c_inj hT.1 hT.2.1.2 d2 hR
    subst ek
    have hv1 : ∃ u : Nat, (u = v1 ∨ u = v) ∧ gd W u v1 ∧ gd W u v ∧ f_X4_add shC r (c1 : Int) (v : Int) (if W then 1 else 0) m = some (jm_up m (r + 2) i (u : Int)) := by
      have hd : ∀ u : Nat, f_X4_add_b70 shC (r + 2) (i : Int) (u : Int) m = some (jm_up m (r + 2) i (u : Int)) := fun u => by
        unfold f_X4_add_b70
        rw [jwa_ok s2 (by omega) (by omega), Option.bind_some, Int.toNat_natCast]
      have hh : f_X4_add shC r (c1 : Int) (v : Int) (if W then 1 else 0) m = (if W then Option.bind (f_J9_max_7cf53 (v1 : Int) (v : Int)) (fun q => f_X4_add_b70 shC (r + 2) (i : Int) q m) else Option.bind (f_J9_min_7cf53 (v1 : Int) (v : Int)) (fun q => f_X4_add_b70 shC (r + 2) (i : Int) q m)) := by
        unfold f_X4_add
        rw [if_neg (by omega), if_pos (by omega), jrf_ok s0, Option.bind_some, p3, Int.toNat_natCast, jra_ok s3 (by omega) (by omega), Option.bind_some, Int.toNat_natCast, b2, jw_eq (x := (i : Int) + 1 - 1) (by omega) (by omega), show (i : Int) + 1 - 1 = (i : Int) by omega, if_neg (by omega), if_pos (by omega), jrf_ok s0, Option.bind_some, p2, Int.toNat_natCast]
        cases W with
        | true =>
          rw [if_pos rfl, if_neg (by decide), if_pos rfl, Option.bind_some, Int.toNat_natCast, jra_ok s2 (by omega) (by omega), Option.bind_some, Int.toNat_natCast, d3]
        | false =>
          rw [if_neg (show ¬ false = true by decide), if_pos rfl, if_neg (show ¬ false = true by decide), Option.bind_some, Int.toNat_natCast, jra_ok s2 (by omega) (by omega), Option.bind_some, Int.toNat_natCast, d3]
      rw [hh]
      cases W with
      | true =>
        rw [if_pos rfl]
        unfold f_J9_max_7cf53
        by_cases q : v1 < v
        · rw [if_pos (by omega), Option.bind_some]
          exact ⟨v, Or.inr rfl, by unfold gd; simp; omega, gd_refl, hd v⟩
        · rw [if_neg (by omega), Option.bind_some]
          exact ⟨v1, Or.inl rfl, gd_refl, by unfold gd; simp; omega, hd v1⟩
      | false =>
        rw [if_neg (by decide)]
        unfold f_J9_min_7cf53
        by_cases q : v < v1
        · rw [if_pos (by omega), Option.bind_some]
          exact ⟨v, Or.inr rfl, by unfold gd; simp; omega, gd_refl, hd v⟩
        · rw [if_neg (by omega), Option.bind_some]
          exact ⟨v1, Or.inl rfl, gd_refl, by unfold gd; simp; omega, hd v1⟩
    obtain ⟨u, e0, e1, e2, e3⟩ := hv1
    refine ⟨_, n, e3, ⟨⟨a1, by rw [up_ne (by omega)]; exact a2, fun j hj => by rw [up_ne (by omega), up_ne (by omega)]; exact a3 j hj, fun s hs => by rw [up_ne (by omega)]; intro q; obtain ⟨j, f1, f2, f3⟩ := a4 s hs q; exact ⟨j, f1, f2, by rw [up_ne (by omega)]; exact f3⟩⟩, fun j hj => ?_, fun k' v' q => ?_⟩, (FrR.rf m r).up (by omega)⟩
    · rw [up_ne (show r + 1 ≠ r + 2 by omega), up_row]
      by_cases cj : j = i
      · subst cj
        rw [if_pos rfl]
        refine ⟨k1, u, c1, d1, d2, rfl, ?_, fun v' q => ?_⟩
        · rcases e0 with rfl | rfl
          · exact Or.inl d4
          · exact Or.inr ⟨rfl, rfl⟩
        · rcases q with q | q
          · exact gd_trans e1 (d5 v' q)
          · rw [q.2]; exact e2
      · rw [if_neg cj]
        obtain ⟨k2, v2, c2, f1, f2, f3, f4, f5⟩ := hb j hj
        refine ⟨k2, v2, c2, f1, f2, f3, Or.inl f4, fun v' q => ?_⟩
        rcases q with q | q
        · exact f5 v' q
        · have hk : k2 = k1 := q.1
          subst hk
          have := Rk.k_inj f2 d2
          subst this
          have x := (a3 j hj).2.2
          have y := (a3 i b1).2.2
          rw [f1] at x
          rw [b3] at y
          rw [x] at y
          omega
    · rcases q with q | q
      · obtain ⟨j, cc, f1, f2, f3⟩ := hc k' v' q
        exact ⟨j, cc, f1, by rw [up_ne (by omega)]; exact f2, f3⟩
      · have hk : k' = k1 := q.1
        subst hk
        exact ⟨i, c1, b1, by rw [up_ne (by omega)]; exact b3, hR⟩
