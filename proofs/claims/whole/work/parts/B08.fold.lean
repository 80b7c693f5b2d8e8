/-! fast: the least set, by a fold -/
def btr2 (c bt : Nat → Nat) (x b : Nat) : Bool := decide (c x < c b) || (decide (c x = c b) && decide (bt x < bt b))
def fb (c bt : Nat → Nat) (ok : Nat → Bool) : Nat → Nat
  | 0 => 0
  | n + 1 => if ok (n + 1) && btr2 c bt (n + 1) (fb c bt ok n) then n + 1 else fb c bt ok n
theorem btr2_iff {c bt : Nat → Nat} {x b : Nat} : btr2 c bt x b = true ↔ (c x < c b ∨ (c x = c b ∧ bt x < bt b)) := by
  unfold btr2
  rw [Bool.or_eq_true, Bool.and_eq_true, decide_eq_true_iff, decide_eq_true_iff, decide_eq_true_iff]
theorem fb_le (c bt : Nat → Nat) (ok : Nat → Bool) : ∀ n, fb c bt ok n ≤ n := by
  intro n
  induction n with
  | zero => exact Nat.le_refl _
  | succ n ih =>
    have e : fb c bt ok (n + 1) = if ok (n + 1) && btr2 c bt (n + 1) (fb c bt ok n) then n + 1 else fb c bt ok n := rfl
    rw [e]
    by_cases q : (ok (n + 1) && btr2 c bt (n + 1) (fb c bt ok n)) = true
    · rw [if_pos q]; omega
    · rw [if_neg q]; omega
theorem fb_ok (c bt : Nat → Nat) (ok : Nat → Bool) (h0 : ok 0 = true) : ∀ n, ok (fb c bt ok n) = true := by
  intro n
  induction n with
  | zero => exact h0
  | succ n ih =>
    show ok (if _ then _ else _) = _
    split
    · rename_i q; exact (Bool.and_eq_true_iff.mp q).1
    · exact ih
theorem fb_min (c bt : Nat → Nat) (ok : Nat → Bool) : ∀ n x, x ≤ n → (x = 0 ∨ ok x = true) → ¬ (c x < c (fb c bt ok n) ∨ (c x = c (fb c bt ok n) ∧ bt x < bt (fb c bt ok n))) := by
  intro n
  induction n with
  | zero => intro x hx _; rw [show x = 0 by omega]; show ¬ (c 0 < c 0 ∨ (c 0 = c 0 ∧ bt 0 < bt 0)); omega
  | succ n ih =>
    intro x hx ho
    have e : fb c bt ok (n + 1) = if ok (n + 1) && btr2 c bt (n + 1) (fb c bt ok n) then n + 1 else fb c bt ok n := rfl
    by_cases q : (ok (n + 1) && btr2 c bt (n + 1) (fb c bt ok n)) = true
    · rw [e, if_pos q]
      have hb := btr2_iff.mp (Bool.and_eq_true_iff.mp q).2
      by_cases k : x = n + 1
      · rw [k]; omega
      · have := ih x (by omega) ho
        omega
    · rw [e, if_neg q]
      by_cases k : x = n + 1
      · subst k
        have ok1 : ok (n + 1) = true := by rcases ho with h | h; omega; exact h
        rw [ok1, Bool.true_and] at q
        exact fun z => q (btr2_iff.mpr z)
      · exact ih x (by omega) ho
theorem fb_eq (c bt : Nat → Nat) (ok ok2 : Nat → Bool) (h2 : ∀ x, ok2 x = true → ok x = true) (hx : ∀ x, ok x = true → ok2 x = false → ∃ y, y < x ∧ (y = 0 ∨ ok2 y = true) ∧ c y ≤ c x ∧ bt y < bt x) : ∀ n, fb c bt ok n = fb c bt ok2 n := by
  intro n
  induction n with
  | zero => rfl
  | succ n ih =>
    have e : fb c bt ok (n + 1) = if ok (n + 1) && btr2 c bt (n + 1) (fb c bt ok n) then n + 1 else fb c bt ok n := rfl
    have e2 : fb c bt ok2 (n + 1) = if ok2 (n + 1) && btr2 c bt (n + 1) (fb c bt ok2 n) then n + 1 else fb c bt ok2 n := rfl
    cases q2 : ok2 (n + 1) with
    | true => rw [e, e2, ih, h2 _ q2, q2]
    | false =>
      have e3 : fb c bt ok2 (n + 1) = fb c bt ok2 n := by rw [e2, q2, Bool.false_and, if_neg (by decide)]
      rw [e3, e, ih]
      cases q1 : ok (n + 1) with
      | false => rw [Bool.false_and, if_neg (by decide)]
      | true =>
        obtain ⟨y, y1, y2, y3, y4⟩ := hx _ q1 q2
        have := fb_min c bt ok2 n y (by omega) y2
        rw [Bool.true_and, if_neg]
        intro z
        have := btr2_iff.mp z
        omega
/-! the sets -/
def bt8 (x : Nat) : Nat := cnt (fun l => hb x l) 8
def okS2 (S w x : Nat) : Bool := decide (∀ t, t < S → hc S x t ≤ w)
def sub8 (x cr : Nat) : Bool := (List.range 8).all fun l => !hb x l || hb cr l
noncomputable def cH (S w ms : Nat) (sg : Nat → Int) (x : Nat) : Nat := wst S w x ms sg
theorem okS2_iff {S w x : Nat} : okS2 S w x = true ↔ ∀ t, t < S → hc S x t ≤ w := decide_eq_true_iff
theorem sub8_iff {x cr : Nat} : sub8 x cr = true ↔ ∀ l, l < 8 → hb x l = true → hb cr l = true := by
  unfold sub8
  rw [List.all_eq_true]
  refine ⟨fun h l hl q => ?_, fun h l hl => ?_⟩
  · have := h l (List.mem_range.mpr hl)
    rw [q] at this
    simpa using this
  · have := h l (List.mem_range.mp hl)
    cases q : hb x l with
    | false => rfl
    | true => rw [this q]; rfl
theorem cnt_strict {f g : Nat → Bool} (h : ∀ i, f i = true → g i = true) {a : Nat} : ∀ n, a < n → f a = false → g a = true → cnt f n < cnt g n := by
  intro n
  induction n with
  | zero => intro h; omega
  | succ n ih =>
    intro ha fa ga
    show cnt f n + (if f n then 1 else 0) < cnt g n + (if g n then 1 else 0)
    by_cases q : a = n
    · subst q
      rw [fa, ga, if_neg (by decide), if_pos rfl]
      have := cnt_imp h a
      omega
    · have := ih (by omega) fa ga
      by_cases c : f n = true
      · rw [if_pos c, if_pos (h n c)]; omega
      · rw [if_neg c]; omega
theorem hc_0 (S s : Nat) : hc S 0 s = 0 := cnt_none _ (fun i _ => Nat.zero_testBit _)
theorem fast_eq {S w h ms cn : Nat} {sg : Nat → Int} (hT : ST S w h) (hX : TX cn sg) (h1 : 1 ≤ ms) : ∀ n, n ≤ 255 → fb (cH S w ms sg) bt8 (fun x => decide (x < 256) && okS2 S w x) n = fb (cH S w ms sg) bt8 (fun x => decide (x < 256) && (okS2 S w x && sub8 x (lr sg 0 cn))) n := by
  intro n _
  refine fb_eq _ _ _ _ (fun x q => ?_) (fun x q q2 => ?_) n
  · simp only [Bool.and_eq_true] at q ⊢
    exact ⟨q.1, q.2.1⟩
  · simp only [Bool.and_eq_true, decide_eq_true_iff] at q
    rw [q.2, Bool.true_and, decide_eq_true q.1, Bool.true_and] at q2
    have hTx : ST S w x := ⟨hT.1, hT.2.1, q.1, okS2_iff.mp q.2⟩
    obtain ⟨a, b⟩ := wst_sub hTx hX h1
    have hbit : ∀ l, hb (x &&& lr sg 0 cn) l = (hb x l && hb (lr sg 0 cn) l) := fun l => Nat.testBit_and _ _ _
    have hns : ¬ ∀ l, l < 8 → hb x l = true → hb (lr sg 0 cn) l = true := fun z => by rw [sub8_iff.mpr z] at q2; cases q2
    obtain ⟨l, hl⟩ := Classical.not_forall.mp hns
    have hl8 : l < 8 := Classical.byContradiction fun z => hl (fun y => absurd y z)
    have hlx : hb x l = true := Classical.byContradiction fun z => hl (fun _ y => absurd y z)
    have hlc : hb (lr sg 0 cn) l = false := by
      cases z : hb (lr sg 0 cn) l with
      | false => rfl
      | true => exact absurd (fun _ _ => z) hl
    refine ⟨x &&& lr sg 0 cn, ?_, Or.inr ?_, b, ?_⟩
    · rcases Nat.lt_or_ge (x &&& lr sg 0 cn) x with c | c
      · exact c
      · have e : x &&& lr sg 0 cn = x := Nat.le_antisymm Nat.and_le_left c
        have := hbit l
        rw [e, hlx, hlc] at this
        cases this
    · simp only [Bool.and_eq_true, decide_eq_true_iff]
      exact ⟨a.2.2.1, okS2_iff.mpr a.2.2.2, sub8_iff.mpr fun l _ z => by rw [hbit] at z; exact (Bool.and_eq_true_iff.mp z).2⟩
    · exact cnt_strict (fun i z => by rw [hbit] at z; exact (Bool.and_eq_true_iff.mp z).1) 8 hl8 (by rw [hbit, hlc, Bool.and_false]) hlx
theorem sM_bits : ∀ x : Fin 256, f_X12_bits jN (x.val : Int) = some (bt8 x.val : Int) := by decide +kernel
