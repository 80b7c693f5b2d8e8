/-! tables: by shelf what a run costs to come there; less than 0: none does -/
abbrev Tb : Type := Nat → Int
abbrev WS : Type := Tb × List Nat × Int
def btr (W : Bool) (a b : Int) : Bool := if b < 0 then decide (0 ≤ a) else (decide (0 ≤ a) && (if W then decide (b < a) else decide (a < b)))
def jn (W : Bool) (T U : Tb) : Tb := fun k => if btr W (U k) (T k) then U k else T k
def cs (S h ms k l : Nat) : Nat := if tK S h k l then 1 else ms
def fAn (W : Bool) (S w h ms l : Nat) (T : Tb) : Nat → Tb
  | 0 => fun _ => -1
  | n + 1 => if T n < 0 then fAn W S w h ms l T n else fun k => if k = fK S w h n l then (if btr W (T n + (cs S h ms n l : Int)) (fAn W S w h ms l T n k) then T n + (cs S h ms n l : Int) else fAn W S w h ms l T n k) else fAn W S w h ms l T n k
def dgF (may : Int) (fm : Int) : Int := if fm < 0 then may else fm
def itw (f : WS → WS) : Nat → WS → WS
  | 0 => fun s => s
  | n + 1 => fun s => itw f n (f s)
def lpw (W : Bool) (f : WS → WS) : Nat → WS → Tb → WS
  | 0 => fun s K => (K, s.2)
  | n + 1 => fun s K => lpw W f n (f s) (jn W (f s).1 K)
def wkL (W : Bool) (S w h ms : Nat) (s : Int) (q : WS) : WS := if 48 ≤ s ∧ s ≤ 55 then (fAn W S w h ms (lnO s) q.1 (KN S), q.2) else q
def wkC (W : Bool) (f g : WS → WS) (q : WS) : WS := match q.2.1 with
  | [] => (jn W (g (q.1, (f (q.1, [], dgF 2 q.2.2)).2)).1 (f (q.1, [], dgF 2 q.2.2)).1, (g (q.1, (f (q.1, [], dgF 2 q.2.2)).2)).2)
  | dd :: r => if dd = 1 then g (q.1, r, q.2.2) else f (q.1, r, q.2.2)
def wkO (W : Bool) (f : WS → WS) (tm : Nat) (q : WS) : WS := match q.2.1 with
  | [] => lpw W f tm (q.1, [], dgF ((tm + 1 : Nat) : Int) q.2.2) q.1
  | dd :: r => itw f dd (q.1, r, q.2.2)
def wk (W : Bool) (S w h ms : Nat) (sg : Nat → Int) : Nat → Nat → WS → WS
  | 0 => fun i q => wkL W S w h ms (sg i) q
  | d + 1 => fun i q => if sg i = 59 then wk W S w h ms sg d (nx sg i) (wk W S w h ms sg d (i + 1) q) else if sg i = 63 then wkC W (wk W S w h ms sg d (i + 1)) (wk W S w h ms sg d (nx sg i)) q else if 98 ≤ sg i ∧ sg i ≤ 100 then wkO W (wk W S w h ms sg d (i + 1)) (tmO (sg i)) q else wkL W S w h ms (sg i) q
theorem wk_leaf {W : Bool} {S w h ms : Nat} {sg : Nat → Int} {d i : Nat} {q : WS} (hl : isLf (sg i) = true) : wk W S w h ms sg d i q = wkL W S w h ms (sg i) q := by
  cases d with
  | zero => rfl
  | succ d =>
    rw [isLf_iff] at hl
    show (if sg i = 59 then _ else _) = _
    rw [if_neg (by omega), if_neg (by omega), if_neg (by omega)]
theorem wk_seq {W : Bool} {S w h ms : Nat} {sg : Nat → Int} {d i : Nat} {q : WS} (hs : sg i = 59) : wk W S w h ms sg (d + 1) i q = wk W S w h ms sg d (nx sg i) (wk W S w h ms sg d (i + 1) q) := by
  show (if sg i = 59 then _ else _) = _
  rw [if_pos hs]
theorem wk_cho {W : Bool} {S w h ms : Nat} {sg : Nat → Int} {d i : Nat} {q : WS} (hs : sg i = 63) : wk W S w h ms sg (d + 1) i q = wkC W (wk W S w h ms sg d (i + 1)) (wk W S w h ms sg d (nx sg i)) q := by
  show (if sg i = 59 then _ else if sg i = 63 then _ else _) = _
  rw [if_neg (by omega), if_pos hs]
theorem wk_loop {W : Bool} {S w h ms : Nat} {sg : Nat → Int} {d i : Nat} {q : WS} (hs : 98 ≤ sg i ∧ sg i ≤ 100) : wk W S w h ms sg (d + 1) i q = wkO W (wk W S w h ms sg d (i + 1)) (tmO (sg i)) q := by
  show (if sg i = 59 then _ else if sg i = 63 then _ else if 98 ≤ sg i ∧ sg i ≤ 100 then _ else _) = _
  rw [if_neg (by omega), if_neg (by omega), if_pos hs]
/-! runs: from a shelf to a shelf, at a cost -/
abbrev RX : Type := Nat → Nat → Nat → Prop
def ItX (R : RX) : Nat → RX
  | 0 => fun k k' c => k' = k ∧ c = 0
  | n + 1 => fun k k' c => ∃ k1 c1 c2, ItX R n k k1 c1 ∧ R k1 k' c2 ∧ c = c1 + c2
def LfX (S w h ms : Nat) (s : Int) : RX := fun k k' c => if 48 ≤ s ∧ s ≤ 55 then k' = fK S w h k (lnO s) ∧ c = cs S h ms k (lnO s) else k' = k ∧ c = 0
def Rx (S w h ms : Nat) (sg : Nat → Int) : Nat → Nat → RX
  | 0 => fun i => LfX S w h ms (sg i)
  | d + 1 => fun i => if sg i = 59 then (fun k k' c => ∃ k1 c1 c2, Rx S w h ms sg d (i + 1) k k1 c1 ∧ Rx S w h ms sg d (nx sg i) k1 k' c2 ∧ c = c1 + c2) else if sg i = 63 then (fun k k' c => Rx S w h ms sg d (i + 1) k k' c ∨ Rx S w h ms sg d (nx sg i) k k' c) else if 98 ≤ sg i ∧ sg i ≤ 100 then (fun k k' c => ∃ n, n ≤ tmO (sg i) ∧ ItX (Rx S w h ms sg d (i + 1)) n k k' c) else LfX S w h ms (sg i)
theorem Rx_leaf {S w h ms : Nat} {sg : Nat → Int} {d i : Nat} (hl : isLf (sg i) = true) : Rx S w h ms sg d i = LfX S w h ms (sg i) := by
  cases d with
  | zero => rfl
  | succ d =>
    rw [isLf_iff] at hl
    show (if sg i = 59 then _ else _) = _
    rw [if_neg (by omega), if_neg (by omega), if_neg (by omega)]
theorem Rx_seq {S w h ms : Nat} {sg : Nat → Int} {d i : Nat} (hs : sg i = 59) : Rx S w h ms sg (d + 1) i = (fun k k' c => ∃ k1 c1 c2, Rx S w h ms sg d (i + 1) k k1 c1 ∧ Rx S w h ms sg d (nx sg i) k1 k' c2 ∧ c = c1 + c2) := by
  show (if sg i = 59 then _ else _) = _
  rw [if_pos hs]
theorem Rx_cho {S w h ms : Nat} {sg : Nat → Int} {d i : Nat} (hs : sg i = 63) : Rx S w h ms sg (d + 1) i = (fun k k' c => Rx S w h ms sg d (i + 1) k k' c ∨ Rx S w h ms sg d (nx sg i) k k' c) := by
  show (if sg i = 59 then _ else if sg i = 63 then _ else _) = _
  rw [if_neg (by omega), if_pos hs]
theorem Rx_loop {S w h ms : Nat} {sg : Nat → Int} {d i : Nat} (hs : 98 ≤ sg i ∧ sg i ≤ 100) : Rx S w h ms sg (d + 1) i = (fun k k' c => ∃ n, n ≤ tmO (sg i) ∧ ItX (Rx S w h ms sg d (i + 1)) n k k' c) := by
  show (if sg i = 59 then _ else if sg i = 63 then _ else if 98 ≤ sg i ∧ sg i ≤ 100 then _ else _) = _
  rw [if_neg (by omega), if_neg (by omega), if_pos hs]
/-! sets of shelves with costs -/
abbrev SX : Type := Nat → Nat → Prop
def cmp (A : SX) (R : RX) : SX := fun k' v' => ∃ k v c, A k v ∧ R k k' c ∧ v' = v + c
def uni (A B : SX) : SX := fun k v => A k v ∨ B k v
def gd (W : Bool) (v v' : Nat) : Prop := if W then v' ≤ v else v ≤ v'
def BO (W : Bool) (K : Nat) (A : SX) (T : Tb) : Prop := ∀ k, k < K → (T k = -1 ∧ ∀ v, ¬ A k v) ∨ ∃ v : Nat, T k = (v : Int) ∧ A k v ∧ ∀ v', A k v' → gd W v v'
theorem gd_refl {W : Bool} {v : Nat} : gd W v v := by unfold gd; cases W <;> simp
theorem gd_trans {W : Bool} {a b c : Nat} (h1 : gd W a b) (h2 : gd W b c) : gd W a c := by
  unfold gd at *
  cases W
  · simp at *; omega
  · simp at *; omega
theorem gd_add {W : Bool} {a b c : Nat} (h : gd W a b) : gd W (a + c) (b + c) := by
  unfold gd at *
  cases W
  · simp at *; omega
  · simp at *; omega
theorem gd_anti {W : Bool} {a b : Nat} (h1 : gd W a b) (h2 : gd W b a) : a = b := by
  unfold gd at *
  cases W
  · simp at *; omega
  · simp at *; omega
theorem BO.ext {W : Bool} {K : Nat} {A B : SX} {T : Tb} (h : BO W K A T) (he : ∀ k v, k < K → (A k v ↔ B k v)) : BO W K B T := by
  intro k hk
  rcases h k hk with ⟨h1, h2⟩ | ⟨v, h1, h2, h3⟩
  · exact Or.inl ⟨h1, fun v q => h2 v ((he k v hk).mpr q)⟩
  · exact Or.inr ⟨v, h1, (he k v hk).mp h2, fun v' q => h3 v' ((he k v' hk).mpr q)⟩
theorem BO.uniq {W : Bool} {K : Nat} {A : SX} {T U : Tb} (h : BO W K A T) (g : BO W K A U) : ∀ k, k < K → T k = U k := by
  intro k hk
  rcases h k hk with ⟨h1, h2⟩ | ⟨v, h1, h2, h3⟩
  · rcases g k hk with ⟨g1, g2⟩ | ⟨u, g1, g2, g3⟩
    · rw [h1, g1]
    · exact absurd g2 (h2 u)
  · rcases g k hk with ⟨g1, g2⟩ | ⟨u, g1, g2, g3⟩
    · exact absurd h2 (g2 v)
    · rw [h1, g1, gd_anti (h3 u g2) (g3 v h2)]
theorem btr_nn {W : Bool} {a b : Nat} : (btr W (a : Int) (b : Int) = true → gd W a b) ∧ (btr W (a : Int) (b : Int) = false → gd W b a) := by
  unfold btr gd
  rw [if_neg (by omega), decide_eq_true (show (0 : Int) ≤ (a : Int) by omega), Bool.true_and]
  cases W
  · simp
    omega
  · simp
    omega
theorem BO.jo {W : Bool} {K : Nat} {A B : SX} {T U : Tb} (h : BO W K A T) (g : BO W K B U) : BO W K (uni A B) (jn W T U) := by
  intro k hk
  show (jn W T U k = -1 ∧ _) ∨ _
  unfold jn
  rcases h k hk with ⟨h1, h2⟩ | ⟨v, h1, h2, h3⟩
  · rcases g k hk with ⟨g1, g2⟩ | ⟨u, g1, g2, g3⟩
    · rw [h1, g1]
      refine Or.inl ⟨by unfold btr; simp, fun v q => ?_⟩
      rcases q with q | q
      · exact h2 v q
      · exact g2 v q
    · rw [h1, g1]
      have : btr W (u : Int) (-1) = true := by unfold btr; simp
      rw [if_pos this]
      refine Or.inr ⟨u, rfl, Or.inr g2, fun v' q => ?_⟩
      rcases q with q | q
      · exact absurd q (h2 v')
      · exact g3 v' q
  · rcases g k hk with ⟨g1, g2⟩ | ⟨u, g1, g2, g3⟩
    · rw [h1, g1]
      have : btr W (-1) (v : Int) = false := by unfold btr; rw [if_neg (by omega)]; simp
      rw [if_neg (by rw [this]; decide)]
      refine Or.inr ⟨v, rfl, Or.inl h2, fun v' q => ?_⟩
      rcases q with q | q
      · exact h3 v' q
      · exact absurd q (g2 v')
    · rw [h1, g1]
      have hb := btr_nn (W := W) (a := u) (b := v)
      cases e : btr W (u : Int) (v : Int) with
      | true =>
        have := hb.1 e
        rw [if_pos rfl]
        refine Or.inr ⟨u, rfl, Or.inr g2, fun v' q => ?_⟩
        rcases q with q | q
        · exact gd_trans this (h3 v' q)
        · exact g3 v' q
      | false =>
        have := hb.2 e
        rw [if_neg (by decide)]
        refine Or.inr ⟨v, rfl, Or.inl h2, fun v' q => ?_⟩
        rcases q with q | q
        · exact h3 v' q
        · exact gd_trans this (g3 v' q)
/-- a fetch of all -/
theorem BO.fa {W : Bool} {S w h ms l : Nat} {A : SX} {T : Tb} (hT : ST S w h) (hl : l < 8) (hA : BO W (KN S) A T) : ∀ n, n ≤ KN S → BO W (KN S) (fun k' v' => ∃ k v, k < n ∧ A k v ∧ k' = fK S w h k l ∧ v' = v + cs S h ms k l) (fAn W S w h ms l T n) := by
  intro n
  induction n with
  | zero =>
    intro _ k hk
    exact Or.inl ⟨rfl, fun v ⟨k1, v1, a, _⟩ => absurd a (Nat.not_lt_zero _)⟩
  | succ n ih =>
    intro hn
    have ih := ih (by omega)
    rcases hA n (by omega) with ⟨h1, h2⟩ | ⟨v, h1, h2, h3⟩
    · have e : fAn W S w h ms l T (n + 1) = fAn W S w h ms l T n := if_pos (by rw [h1]; decide)
      rw [e]
      refine ih.ext fun k' v' _ => ⟨fun ⟨k, v, a, b⟩ => ⟨k, v, by omega, b⟩, fun ⟨k, v, a, b⟩ => ⟨k, v, ?_, b⟩⟩
      by_cases c : k = n
      · subst c; exact absurd b.1 (h2 v)
      · omega
    · have e : fAn W S w h ms l T (n + 1) = fun k => if k = fK S w h n l then (if btr W (T n + (cs S h ms n l : Int)) (fAn W S w h ms l T n k) then T n + (cs S h ms n l : Int) else fAn W S w h ms l T n k) else fAn W S w h ms l T n k := if_neg (by rw [h1]; omega)
      rw [e]
      -- the one shelf as a set of its own
      have hB : BO W (KN S) (fun k' v' => k' = fK S w h n l ∧ ∃ v, A n v ∧ v' = v + cs S h ms n l) (fun k => if k = fK S w h n l then T n + (cs S h ms n l : Int) else -1) := by
        intro k hk
        by_cases c : k = fK S w h n l
        · refine Or.inr ⟨v + cs S h ms n l, ?_, ⟨c, v, h2, rfl⟩, fun v' ⟨_, u, a, b⟩ => ?_⟩
          · show (if k = fK S w h n l then _ else _) = _
            rw [if_pos c, h1]; omega
          · rw [b]; exact gd_add (h3 u a)
        · exact Or.inl ⟨if_neg c, fun v' q => c q.1⟩
      have hj := (ih.jo hB).ext (B := fun k' v' => ∃ k v, k < n + 1 ∧ A k v ∧ k' = fK S w h k l ∧ v' = v + cs S h ms k l) (fun k' v' _ => ⟨fun q => ?_, fun ⟨k, v, a, b, c, d⟩ => ?_⟩)
      · intro k hk
        have := hj k hk
        have ej : jn W (fAn W S w h ms l T n) (fun k => if k = fK S w h n l then T n + (cs S h ms n l : Int) else -1) k = (if k = fK S w h n l then (if btr W (T n + (cs S h ms n l : Int)) (fAn W S w h ms l T n k) then T n + (cs S h ms n l : Int) else fAn W S w h ms l T n k) else fAn W S w h ms l T n k) := by
          unfold jn
          dsimp only
          by_cases c : k = fK S w h n l
          · simp only [if_pos c]
          · have hm : ∀ b : Int, btr W (-1) b = false := fun b => by unfold btr; split <;> simp
            simp only [if_neg c, hm]
            simp
        rw [ej] at this
        exact this
      · rcases q with ⟨k, v, a, b⟩ | ⟨q1, v, a, b⟩
        · exact ⟨k, v, by omega, b⟩
        · exact ⟨n, v, by omega, a, q1, b⟩
      · by_cases e : k = n
        · subst e; exact Or.inr ⟨c, v, b, d⟩
        · exact Or.inl ⟨k, v, by omega, b, c, d⟩
