/-! rows: what is still to come, from the end on; the first row of digits that costs the most -/
abbrev Bt : Type := Nat → Nat
def itB (B : Bt → Bt) (β : Bt) : Nat → Bt
  | 0 => β
  | n + 1 => B (itB B β n)
def lm (B : Bt → Bt) (β : Bt) : Nat → Bt
  | 0 => β
  | n + 1 => fun k => if lm B β n k < B (lm B β n) k then B (lm B β n) k else lm B β n k
def lkL (S w h ms : Nat) (s : Int) (β : Bt) : Bt := fun k => if 48 ≤ s ∧ s ≤ 55 then β (fK S w h k (lnO s)) + cs S h ms k (lnO s) else β k
def lkC (f g : Bt → Bt) (β : Bt) : Bt := fun k => if f β k < g β k then g β k else f β k
def lk (S w h ms : Nat) (sg : Nat → Int) : Nat → Nat → Bt → Bt
  | 0 => fun i β => lkL S w h ms (sg i) β
  | d + 1 => fun i β => if sg i = 59 then lk S w h ms sg d (i + 1) (lk S w h ms sg d (nx sg i) β) else if sg i = 63 then lkC (lk S w h ms sg d (i + 1)) (lk S w h ms sg d (nx sg i)) β else if 98 ≤ sg i ∧ sg i ≤ 100 then lm (lk S w h ms sg d (i + 1)) β (tmO (sg i)) else lkL S w h ms (sg i) β
/-- the least number of times by which the most is reached -/
def amX (B : Bt → Bt) (β : Bt) (k : Nat) : Nat → Nat
  | 0 => 0
  | n + 1 => if itB B β (amX B β k n) k < itB B β (n + 1) k then n + 1 else amX B β k n
theorem amX_le {B : Bt → Bt} {β : Bt} {k : Nat} : ∀ n, amX B β k n ≤ n := by
  intro n
  induction n with
  | zero => exact Nat.le_refl _
  | succ n ih =>
    show (if _ then n + 1 else amX B β k n) ≤ _
    split
    · exact Nat.le_refl _
    · omega
theorem amX_max {B : Bt → Bt} {β : Bt} {k : Nat} : ∀ n j, j ≤ n → itB B β j k ≤ itB B β (amX B β k n) k ∧ (j < amX B β k n → itB B β j k < itB B β (amX B β k n) k) := by
  intro n
  induction n with
  | zero =>
    intro j hj
    obtain rfl : j = 0 := by omega
    exact ⟨Nat.le_refl _, fun z => absurd z (Nat.not_lt_zero _)⟩
  | succ n ih =>
    intro j hj
    have e : amX B β k (n + 1) = if itB B β (amX B β k n) k < itB B β (n + 1) k then n + 1 else amX B β k n := rfl
    by_cases c : itB B β (amX B β k n) k < itB B β (n + 1) k
    · rw [e, if_pos c]
      by_cases c2 : j = n + 1
      · subst c2; exact ⟨Nat.le_refl _, fun z => absurd z (Nat.lt_irrefl _)⟩
      · have := (ih j (by omega)).1
        exact ⟨by omega, fun _ => by omega⟩
    · rw [e, if_neg c]
      by_cases c2 : j = n + 1
      · subst c2
        exact ⟨by omega, fun z => by have := amX_le (B := B) (β := β) (k := k) n; omega⟩
      · exact ih j (by omega)
abbrev GwX : Type := Bt → Nat → Nat × List Nat
def gSq (F2 : Bt → Bt) (g1 g2 : GwX) : GwX := fun β k => ((g2 β (g1 (F2 β) k).1).1, (g1 (F2 β) k).2 ++ (g2 β (g1 (F2 β) k).1).2)
def gI (B : Bt → Bt) (g : GwX) : Nat → GwX
  | 0 => fun _ k => (k, [])
  | n + 1 => gSq (fun β => itB B β n) g (gI B g n)
def gLf (S w h : Nat) (s : Int) : GwX := fun _ k => (if 48 ≤ s ∧ s ≤ 55 then fK S w h k (lnO s) else k, [])
def gCh (F1 F2 : Bt → Bt) (g1 g2 : GwX) : GwX := fun β k => if F1 β k < F2 β k then ((g2 β k).1, 1 :: (g2 β k).2) else ((g1 β k).1, 0 :: (g1 β k).2)
def gLp (B : Bt → Bt) (g : GwX) (tm : Nat) : GwX := fun β k => ((gI B g (amX B β k tm) β k).1, amX B β k tm :: (gI B g (amX B β k tm) β k).2)
def gr (S w h ms : Nat) (sg : Nat → Int) : Nat → Nat → GwX
  | 0 => fun i => gLf S w h (sg i)
  | d + 1 => fun i => if sg i = 59 then gSq (lk S w h ms sg d (nx sg i)) (gr S w h ms sg d (i + 1)) (gr S w h ms sg d (nx sg i)) else if sg i = 63 then gCh (lk S w h ms sg d (i + 1)) (lk S w h ms sg d (nx sg i)) (gr S w h ms sg d (i + 1)) (gr S w h ms sg d (nx sg i)) else if 98 ≤ sg i ∧ sg i ≤ 100 then gLp (lk S w h ms sg d (i + 1)) (gr S w h ms sg d (i + 1)) (tmO (sg i)) else gLf S w h (sg i)
/-! the values are the most over the runs -/
def LKS (R : RX) (F : Bt → Bt) : Prop := ∀ (β : Bt) (k : Nat), (∃ k' c, R k k' c ∧ c + β k' = F β k) ∧ ∀ k' c, R k k' c → c + β k' ≤ F β k
def sqX (R1 R2 : RX) : RX := fun k k' c => ∃ k1 c1 c2, R1 k k1 c1 ∧ R2 k1 k' c2 ∧ c = c1 + c2
theorem LKS.ext {R R' : RX} {F : Bt → Bt} (h : LKS R F) (he : ∀ k k' c, R k k' c ↔ R' k k' c) : LKS R' F := by
  intro β k
  obtain ⟨⟨k', c, a, b⟩, q⟩ := h β k
  exact ⟨⟨k', c, (he _ _ _).mp a, b⟩, fun k' c z => q k' c ((he _ _ _).mpr z)⟩
theorem LKS.sq {R1 R2 : RX} {F1 F2 : Bt → Bt} (h1 : LKS R1 F1) (h2 : LKS R2 F2) : LKS (sqX R1 R2) (fun β => F1 (F2 β)) := by
  intro β k
  obtain ⟨⟨k1, c1, a1, b1⟩, q1⟩ := h1 (F2 β) k
  obtain ⟨⟨k2, c2, a2, b2⟩, -⟩ := h2 β k1
  refine ⟨⟨k2, c1 + c2, ⟨k1, c1, c2, a1, a2, rfl⟩, ?_⟩, ?_⟩
  · show c1 + c2 + β k2 = F1 (F2 β) k
    omega
  · rintro k' c ⟨k1, c1, c2, a1, a2, e⟩
    have := q1 k1 c1 a1
    have := (h2 β k1).2 k' c2 a2
    show c + β k' ≤ F1 (F2 β) k
    omega
theorem ItX_front {R : RX} : ∀ n k k' c, ItX R (n + 1) k k' c ↔ sqX R (ItX R n) k k' c := by
  intro n
  induction n with
  | zero =>
    intro k k' c
    constructor
    · rintro ⟨k1, c1, c2, ⟨a1, a2⟩, b, e⟩
      subst a1
      exact ⟨k', c2, 0, b, ⟨rfl, rfl⟩, by omega⟩
    · rintro ⟨k1, c1, c2, a, ⟨b1, b2⟩, e⟩
      subst b1
      exact ⟨k, 0, c1, ⟨rfl, rfl⟩, a, by omega⟩
  | succ n ih =>
    intro k k' c
    constructor
    · rintro ⟨k1, c1, c2, a, b, e⟩
      obtain ⟨k0, d1, d2, p, q, e2⟩ := (ih k k1 c1).mp a
      exact ⟨k0, d1, d2 + c2, p, ⟨k1, d2, c2, q, b, rfl⟩, by omega⟩
    · rintro ⟨k0, d1, d2, p, ⟨k1, c1, c2, a, b, e2⟩, e⟩
      exact ⟨k1, d1 + c1, c2, (ih k k1 (d1 + c1)).mpr ⟨k0, d1, c1, p, a, rfl⟩, b, by omega⟩
theorem LKS.it {R : RX} {F : Bt → Bt} (h : LKS R F) : ∀ n, LKS (ItX R n) (fun β => itB F β n) := by
  intro n
  induction n with
  | zero =>
    intro β k
    refine ⟨⟨k, 0, ⟨rfl, rfl⟩, Nat.zero_add _⟩, ?_⟩
    rintro k' c ⟨a, b⟩
    subst a; subst b
    exact Nat.le_of_eq (Nat.zero_add _)
  | succ n ih => exact (h.sq ih).ext (fun k k' c => (ItX_front n k k' c).symm)
theorem LKS.lp {R : RX} {F : Bt → Bt} (h : LKS R F) : ∀ n, LKS (fun k k' c => ∃ j, j ≤ n ∧ ItX R j k k' c) (fun β => lm F β n) := by
  intro n
  induction n with
  | zero =>
    intro β k
    refine ⟨⟨k, 0, ⟨0, Nat.le_refl _, rfl, rfl⟩, Nat.zero_add _⟩, ?_⟩
    rintro k' c ⟨j, hj, a⟩
    obtain rfl : j = 0 := by omega
    obtain ⟨a, b⟩ := a
    subst a; subst b
    exact Nat.le_of_eq (Nat.zero_add _)
  | succ n ih =>
    intro β k
    have e : lm F β (n + 1) k = if lm F β n k < F (lm F β n) k then F (lm F β n) k else lm F β n k := rfl
    have hl : lm F β n k ≤ lm F β (n + 1) k ∧ F (lm F β n) k ≤ lm F β (n + 1) k := by rw [e]; split <;> omega
    refine ⟨?_, ?_⟩
    · show ∃ k' c, _ ∧ c + β k' = lm F β (n + 1) k
      by_cases c : lm F β n k < F (lm F β n) k
      · rw [e, if_pos c]
        obtain ⟨⟨k1, c1, a1, b1⟩, -⟩ := h (lm F β n) k
        obtain ⟨⟨k2, c2, ⟨j, hj, a2⟩, b2⟩, -⟩ := ih β k1
        have b2 : c2 + β k2 = lm F β n k1 := b2
        exact ⟨k2, c1 + c2, ⟨j + 1, by omega, (ItX_front j k k2 _).mpr ⟨k1, c1, c2, a1, a2, rfl⟩⟩, by omega⟩
      · rw [e, if_neg c]
        obtain ⟨⟨k2, c2, ⟨j, hj, a2⟩, b2⟩, -⟩ := ih β k
        exact ⟨k2, c2, ⟨j, by omega, a2⟩, b2⟩
    · rintro k' c ⟨j, hj, a⟩
      show c + β k' ≤ lm F β (n + 1) k
      cases j with
      | zero =>
        have := (ih β k).2 k' c ⟨0, by omega, a⟩
        have this : c + β k' ≤ lm F β n k := this
        omega
      | succ j =>
        obtain ⟨k1, c1, c2, a1, a2, e2⟩ := (ItX_front j k k' c).mp a
        have := (ih β k1).2 k' c2 ⟨j, by omega, a2⟩
        have this : c2 + β k' ≤ lm F β n k1 := this
        have := (h (lm F β n) k).2 k1 c1 a1
        omega
theorem lm_am {R : RX} {F : Bt → Bt} (h : LKS R F) (β : Bt) (k n : Nat) : lm F β n k = itB F β (amX F β k n) k := by
  obtain ⟨⟨k1, c1, ⟨j, hj, a1⟩, b1⟩, q1⟩ := h.lp n β k
  obtain ⟨⟨k2, c2, a2, b2⟩, -⟩ := h.it (amX F β k n) β k
  have b1 : c1 + β k1 = lm F β n k := b1
  have b2 : c2 + β k2 = itB F β (amX F β k n) k := b2
  have h1 : c1 + β k1 ≤ itB F β j k := (h.it j β k).2 k1 c1 a1
  have h2 := (amX_max (B := F) (β := β) (k := k) n j hj).1
  have h3 : c2 + β k2 ≤ lm F β n k := q1 k2 c2 ⟨_, amX_le n, a2⟩
  omega
