/-! free work: the best of all runs -/
def inK (K : Nat) (A : SX) : Prop := ∀ k v, A k v → k < K
def rK (K : Nat) (R : RX) : Prop := ∀ k k' c, k < K → R k k' c → k' < K
theorem LfX_in {S w h ms : Nat} {s : Int} (hT : ST S w h) : rK (KN S) (LfX S w h ms s) := by
  intro k k' c hk hr
  unfold LfX at hr
  split at hr
  · rename_i hs
    rw [hr.1]; exact fK_lt hT (ln_lt hs) hk
  · rw [hr.1]; exact hk
theorem ItX_in {K : Nat} {R : RX} (hR : rK K R) : ∀ n, rK K (ItX R n) := by
  intro n
  induction n with
  | zero => intro k k' c hk ⟨a, _⟩; rw [a]; exact hk
  | succ n ih => intro k k' c hk ⟨k1, c1, c2, a, b, _⟩; exact hR k1 k' c2 (ih k k1 c1 hk a) b
theorem Rx_in {S w h ms : Nat} {sg : Nat → Int} (hT : ST S w h) : ∀ d i, rK (KN S) (Rx S w h ms sg d i) := by
  intro d
  induction d with
  | zero => intro i; exact LfX_in hT
  | succ d ih =>
    intro i k k' c hk hr
    by_cases c1 : sg i = 59
    · rw [Rx_seq c1] at hr
      obtain ⟨k1, c1, c2, a, b, _⟩ := hr
      exact ih _ k1 k' c2 (ih _ k k1 c1 hk a) b
    · by_cases c2 : sg i = 63
      · rw [Rx_cho c2] at hr
        rcases hr with hr | hr
        · exact ih _ k k' c hk hr
        · exact ih _ k k' c hk hr
      · by_cases c3 : 98 ≤ sg i ∧ sg i ≤ 100
        · rw [Rx_loop c3] at hr
          obtain ⟨n, _, hr⟩ := hr
          exact ItX_in (ih (i + 1)) n k k' c hk hr
        · have e : Rx S w h ms sg (d + 1) i = LfX S w h ms (sg i) := by
            show (if sg i = 59 then _ else if sg i = 63 then _ else if 98 ≤ sg i ∧ sg i ≤ 100 then _ else _) = _
            rw [if_neg c1, if_neg c2, if_neg c3]
          rw [e] at hr
          exact LfX_in hT k k' c hk hr
theorem inK_cmp {K : Nat} {A : SX} {R : RX} (hA : inK K A) (hR : rK K R) : inK K (cmp A R) := fun k' v' ⟨k, v, c, a, b, _⟩ => hR k k' c (hA k v a) b
theorem inK_uni {K : Nat} {A B : SX} (hA : inK K A) (hB : inK K B) : inK K (uni A B) := fun k v q => q.elim (hA k v) (hB k v)
/-- the sets of a loop -/
def upTo (A : SX) (R : RX) (n : Nat) : SX := fun k v => ∃ j, j ≤ n ∧ cmp A (ItX R j) k v
theorem cmp_it0 {A : SX} {R : RX} {k v : Nat} : cmp A (ItX R 0) k v ↔ A k v := ⟨fun ⟨k1, v1, c, a, ⟨b1, b2⟩, e⟩ => by rw [b1, e, b2]; exact a, fun h => ⟨k, v, 0, h, ⟨rfl, rfl⟩, rfl⟩⟩
theorem cmp_its {A : SX} {R : RX} {n k v : Nat} : cmp A (ItX R (n + 1)) k v ↔ cmp (cmp A (ItX R n)) R k v := by
  constructor
  · rintro ⟨k1, v1, c, a, ⟨k2, c1, c2, b1, b2, b3⟩, e⟩
    exact ⟨k2, v1 + c1, c2, ⟨k1, v1, c1, a, b1, rfl⟩, b2, by omega⟩
  · rintro ⟨k2, v2, c2, ⟨k1, v1, c1, a, b1, e1⟩, b2, e⟩
    exact ⟨k1, v1, c1 + c2, a, ⟨k2, c1, c2, b1, b2, rfl⟩, by omega⟩
theorem upTo_s {A : SX} {R : RX} {n k v : Nat} : upTo A R (n + 1) k v ↔ (cmp A (ItX R (n + 1)) k v ∨ upTo A R n k v) := by
  constructor
  · rintro ⟨j, hj, h⟩
    by_cases c : j = n + 1
    · subst c; exact Or.inl h
    · exact Or.inr ⟨j, by omega, h⟩
  · rintro (h | ⟨j, hj, h⟩)
    · exact ⟨n + 1, Nat.le_refl _, h⟩
    · exact ⟨j, by omega, h⟩
theorem upTo_c {A : SX} {R : RX} {n k v : Nat} : upTo A R (n + 1) k v ↔ (upTo A R n k v ∨ cmp (upTo A R n) R k v) := by
  constructor
  · rintro ⟨j, hj, h⟩
    by_cases c : j = n + 1
    · subst c
      obtain ⟨k2, v2, c2, a, b, e⟩ := cmp_its.mp h
      exact Or.inr ⟨k2, v2, c2, ⟨n, Nat.le_refl _, a⟩, b, e⟩
    · exact Or.inl ⟨j, by omega, h⟩
  · rintro (⟨j, hj, h⟩ | ⟨k2, v2, c2, ⟨j, hj, a⟩, b, e⟩)
    · exact ⟨j, by omega, h⟩
    · exact ⟨j + 1, by omega, cmp_its.mpr ⟨k2, v2, c2, a, b, e⟩⟩
theorem cmp_loop {A : SX} {R : RX} {n k v : Nat} : cmp A (fun k k' c => ∃ j, j ≤ n ∧ ItX R j k k' c) k v ↔ upTo A R n k v := by
  constructor
  · rintro ⟨k1, v1, c, a, ⟨j, hj, b⟩, e⟩; exact ⟨j, hj, k1, v1, c, a, b, e⟩
  · rintro ⟨j, hj, k1, v1, c, a, b, e⟩; exact ⟨k1, v1, c, a, ⟨j, hj, b⟩, e⟩
/-- what a free step must do -/
def FrW (W : Bool) (K : Nat) (R : RX) (f : WS → WS) : Prop := ∀ (A : SX) (T : Tb) (fm : Int), inK K A → BO W K A T → BO W K (cmp A R) (f (T, [], fm)).1 ∧ (f (T, [], fm)).2.1 = []
theorem wkL_free {W : Bool} {S w h ms : Nat} {s : Int} (hT : ST S w h) : FrW W (KN S) (LfX S w h ms s) (wkL W S w h ms s) := by
  intro A T fm hin hA
  unfold wkL
  by_cases c : 48 ≤ s ∧ s ≤ 55
  · rw [if_pos c]
    refine ⟨(BO.fa (ms := ms) hT (ln_lt c) hA (KN S) (Nat.le_refl _)).ext fun k' v' _ => ⟨fun ⟨k, v, a, b, e1, e2⟩ => ?_, fun ⟨k, v, c1, a, b, e⟩ => ?_⟩, rfl⟩
    · refine ⟨k, v, cs S h ms k (lnO s), b, ?_, e2⟩
      unfold LfX
      rw [if_pos c]
      exact ⟨e1, rfl⟩
    · unfold LfX at b
      rw [if_pos c] at b
      exact ⟨k, v, hin k v a, a, b.1, by rw [e, b.2]⟩
  · rw [if_neg c]
    refine ⟨hA.ext fun k' v' _ => ⟨fun a => ?_, fun ⟨k, v, c1, a, b, e⟩ => ?_⟩, rfl⟩
    · refine ⟨k', v', 0, a, ?_, rfl⟩
      unfold LfX
      rw [if_neg c]
      exact ⟨rfl, rfl⟩
    · unfold LfX at b
      rw [if_neg c] at b
      rw [b.1, e, b.2]; exact a
theorem lpw_free {W : Bool} {K : Nat} {R : RX} {f : WS → WS} (hR : rK K R) (hf : FrW W K R f) : ∀ (n j : Nat) (A : SX) (s : WS) (Kp : Tb), inK K A → s.2.1 = [] → BO W K (cmp A (ItX R j)) s.1 → BO W K (upTo A R j) Kp → BO W K (upTo A R (j + n)) (lpw W f n s Kp).1 ∧ (lpw W f n s Kp).2.1 = [] := by
  intro n
  induction n with
  | zero => intro j A s Kp hin hs h1 h2; exact ⟨h2, hs⟩
  | succ n ih =>
    intro j A s Kp hin hs h1 h2
    have es : s = (s.1, [], s.2.2) := by rw [← hs]
    have h3 := hf (cmp A (ItX R j)) s.1 s.2.2 (inK_cmp hin (ItX_in hR j)) h1
    rw [← es] at h3
    have h4 : BO W K (cmp A (ItX R (j + 1))) (f s).1 := h3.1.ext fun k v _ => cmp_its.symm
    have h5 : BO W K (upTo A R (j + 1)) (jn W (f s).1 Kp) := (h4.jo h2).ext fun k v _ => upTo_s.symm
    have := ih (j + 1) A (f s) (jn W (f s).1 Kp) hin h3.2 h4 h5
    rw [show j + 1 + n = j + (n + 1) by omega] at this
    exact this
theorem ws_eq (s : WS) (h : s.2.1 = []) : s = (s.1, [], s.2.2) := by rw [← h]
theorem ws_eq2 (T : Tb) (q : List Nat × Int) (h : q.1 = []) : (T, q) = (T, [], q.2) := by rw [← h]
theorem wk_free {W : Bool} {S w h ms : Nat} {sg : Nat → Int} (hT : ST S w h) : ∀ d, d ≤ 4 → ∀ i, wf sg d i = true → FrW W (KN S) (Rx S w h ms sg d i) (wk W S w h ms sg d i) := by
  refine wf_ind sg (fun d i => FrW W (KN S) (Rx S w h ms sg d i) (wk W S w h ms sg d i)) ?_ ?_ ?_
  · intro d i hd hl hz A T fm hin hA
    rw [Rx_leaf hl, wk_leaf hl]
    exact wkL_free hT A T fm hin hA
  · intro d i hd hs hz hw ih A T fm hin hA
    rw [Rx_loop hs, wk_loop hs]
    show BO W (KN S) _ (lpw W (wk W S w h ms sg d (i + 1)) (tmO (sg i)) (T, [], dgF ((tmO (sg i) + 1 : Nat) : Int) fm) T).1 ∧ (lpw W (wk W S w h ms sg d (i + 1)) (tmO (sg i)) (T, [], dgF ((tmO (sg i) + 1 : Nat) : Int) fm) T).2.1 = []
    have h0 : BO W (KN S) (cmp A (ItX (Rx S w h ms sg d (i + 1)) 0)) T := hA.ext fun k v _ => cmp_it0.symm
    have h1 : BO W (KN S) (upTo A (Rx S w h ms sg d (i + 1)) 0) T := hA.ext fun k v _ => ⟨fun a => ⟨0, Nat.le_refl _, cmp_it0.mpr a⟩, fun ⟨j, hj, a⟩ => by
      obtain rfl : j = 0 := by omega
      exact cmp_it0.mp a⟩
    have := lpw_free (Rx_in hT d (i + 1)) ih (tmO (sg i)) 0 A (T, [], dgF ((tmO (sg i) + 1 : Nat) : Int) fm) T hin rfl h0 h1
    rw [Nat.zero_add] at this
    exact ⟨this.1.ext fun k v _ => cmp_loop.symm, this.2⟩
  · intro d i hd hs hz hw hw2 ih ih2 A T fm hin hA
    rcases hs with hs | hs
    · rw [Rx_seq hs, wk_seq hs]
      have h1 := ih A T fm hin hA
      have es : wk W S w h ms sg d (i + 1) (T, [], fm) = ((wk W S w h ms sg d (i + 1) (T, [], fm)).1, [], (wk W S w h ms sg d (i + 1) (T, [], fm)).2.2) := ws_eq _ h1.2
      have h2 := ih2 (cmp A (Rx S w h ms sg d (i + 1))) (wk W S w h ms sg d (i + 1) (T, [], fm)).1 (wk W S w h ms sg d (i + 1) (T, [], fm)).2.2 (inK_cmp hin (Rx_in hT d (i + 1))) h1.1
      rw [← es] at h2
      refine ⟨h2.1.ext fun k v _ => ⟨?_, ?_⟩, h2.2⟩
      · rintro ⟨k2, v2, c2, ⟨k1, v1, c1, a, b, e1⟩, b2, e2⟩
        exact ⟨k1, v1, c1 + c2, a, ⟨k2, c1, c2, b, b2, rfl⟩, by omega⟩
      · rintro ⟨k1, v1, c, a, ⟨k2, c1, c2, b, b2, e1⟩, e2⟩
        exact ⟨k2, v1 + c1, c2, ⟨k1, v1, c1, a, b, rfl⟩, b2, by omega⟩
    · rw [Rx_cho hs, wk_cho hs]
      have h1 := ih A T (dgF 2 fm) hin hA
      have es : (T, (wk W S w h ms sg d (i + 1) (T, [], dgF 2 fm)).2) = (T, [], (wk W S w h ms sg d (i + 1) (T, [], dgF 2 fm)).2.2) := ws_eq2 T _ h1.2
      have h2 := ih2 A T (wk W S w h ms sg d (i + 1) (T, [], dgF 2 fm)).2.2 hin hA
      rw [← es] at h2
      show BO W (KN S) _ (jn W (wk W S w h ms sg d (nx sg i) (T, (wk W S w h ms sg d (i + 1) (T, [], dgF 2 fm)).2)).1 (wk W S w h ms sg d (i + 1) (T, [], dgF 2 fm)).1) ∧ (wk W S w h ms sg d (nx sg i) (T, (wk W S w h ms sg d (i + 1) (T, [], dgF 2 fm)).2)).2.1 = []
      refine ⟨(h2.1.jo h1.1).ext fun k v _ => ⟨?_, ?_⟩, h2.2⟩
      · rintro (⟨k1, v1, c, a, b, e⟩ | ⟨k1, v1, c, a, b, e⟩)
        · exact ⟨k1, v1, c, a, Or.inr b, e⟩
        · exact ⟨k1, v1, c, a, Or.inl b, e⟩
      · rintro ⟨k1, v1, c, a, b | b, e⟩
        · exact Or.inr ⟨k1, v1, c, a, b, e⟩
        · exact Or.inl ⟨k1, v1, c, a, b, e⟩
/-! costs are bounded -/
theorem ItX_le {R : RX} {B : Nat} (hR : ∀ k k' c, R k k' c → c ≤ B) : ∀ n k k' c, ItX R n k k' c → c ≤ n * B := by
  intro n
  induction n with
  | zero => intro k k' c ⟨_, e⟩; omega
  | succ n ih =>
    intro k k' c ⟨k1, c1, c2, a, b, e⟩
    have := ih k k1 c1 a
    have := hR k1 k' c2 b
    rw [Nat.succ_mul]; omega
theorem Rx_le {S w h ms : Nat} {sg : Nat → Int} : ∀ d i k k' c, Rx S w h ms sg d i k k' c → c ≤ (ms + 1) * 4 ^ d := by
  have hL : ∀ s d k k' c, LfX S w h ms s k k' c → c ≤ (ms + 1) * 4 ^ d := by
    intro s d k k' c hr
    have p1 : 1 ≤ 4 ^ d := Nat.pow_pos (by decide)
    have p3 : (ms + 1) * 1 ≤ (ms + 1) * 4 ^ d := Nat.mul_le_mul_left _ p1
    unfold LfX at hr
    split at hr
    · rw [hr.2]; unfold cs; split <;> omega
    · omega
  intro d
  induction d with
  | zero => intro i k k' c hr; exact hL _ 0 k k' c hr
  | succ d ih =>
    intro i k k' c hr
    have e1 : 4 ^ (d + 1) = 4 * 4 ^ d := by rw [Nat.pow_succ, Nat.mul_comm]
    have e3 : (ms + 1) * 4 ^ (d + 1) = 4 * ((ms + 1) * 4 ^ d) := by rw [e1, Nat.mul_left_comm]
    by_cases c1 : sg i = 59
    · rw [Rx_seq c1] at hr
      obtain ⟨k1, c1, c2, a, b, e⟩ := hr
      have := ih _ _ _ _ a
      have := ih _ _ _ _ b
      omega
    · by_cases c2 : sg i = 63
      · rw [Rx_cho c2] at hr
        rcases hr with hr | hr
        · have := ih _ _ _ _ hr; omega
        · have := ih _ _ _ _ hr; omega
      · by_cases c3 : 98 ≤ sg i ∧ sg i ≤ 100
        · rw [Rx_loop c3] at hr
          obtain ⟨n, hn, hr⟩ := hr
          have h1 := ItX_le (fun k k' c q => ih (i + 1) k k' c q) n k k' c hr
          have h2 := tm_le c3
          have h3 : n * ((ms + 1) * 4 ^ d) ≤ 4 * ((ms + 1) * 4 ^ d) := Nat.mul_le_mul_right _ (by omega)
          omega
        · have e : Rx S w h ms sg (d + 1) i = LfX S w h ms (sg i) := by
            show (if sg i = 59 then _ else if sg i = 63 then _ else if 98 ≤ sg i ∧ sg i ≤ 100 then _ else _) = _
            rw [if_neg c1, if_neg c2, if_neg c3]
          rw [e] at hr
          exact hL _ _ k k' c hr
