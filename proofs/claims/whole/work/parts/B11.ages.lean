/-! ages: MUST at 0 to 7, MAY at 8 to 15 -/
abbrev AgT : Type := Nat → Nat
abbrev AS : Type := AgT × (Nat → Option AgT)
def fA (S w h l : Nat) (a : AgT) : AgT := if hb h l = true ∨ rmS S w h (l % S) = 0 then a else fun k => if k = l ∨ k = 8 + l then 0 else if k < 8 then (if k % S = l % S ∧ hb h k = false ∧ a k < a l then a k + 1 else a k) else if k < 16 then (if (k - 8) % S = l % S ∧ hb h (k - 8) = false ∧ a k ≤ a (8 + l) ∧ a k < rmS S w h (l % S) then a k + 1 else a k) else a k
/-- the joined ages: a now, b kept -/
def jAg (a b : AgT) : AgT := fun k => if k < 8 then (if a k < b k then b k else a k) else (if b k < a k then b k else a k)
def sA (a b : AgT) : Bool := (List.range 16).all fun k => a k == b k
theorem sA_iff {a b : AgT} : sA a b = true ↔ ∀ k, k < 16 → a k = b k := by
  unfold sA
  rw [List.all_eq_true]
  exact ⟨fun h k hk => beq_iff_eq.mp (h k (List.mem_range.mpr hk)), fun h k hk => beq_iff_eq.mpr (h k (List.mem_range.mp hk))⟩
def lpA (f : AS → AS) : Nat → AS → AS
  | 0 => fun q => q
  | n + 1 => fun q => if sA (jAg (f q).1 q.1) q.1 then (jAg (f q).1 q.1, (f q).2) else lpA f n (jAg (f q).1 q.1, (f q).2)
def seA (t : Nat → Option AgT) (i : Nat) (a : AgT) : Nat → Option AgT := fun j => if j = i then some a else t j
def paL (S w h : Nat) (s : Int) (i : Nat) (q : AS) : AS := if 48 ≤ s ∧ s ≤ 55 then (fA S w h (lnO s) q.1, seA q.2 i q.1) else q
def paC (f g : AS → AS) (q : AS) : AS := (jAg (g (q.1, (f q).2)).1 (f q).1, (g (q.1, (f q).2)).2)
def pa (S w h : Nat) (sg : Nat → Int) : Nat → Nat → AS → AS
  | 0 => fun i q => paL S w h (sg i) i q
  | d + 1 => fun i q => if sg i = 59 then pa S w h sg d (nx sg i) (pa S w h sg d (i + 1) q) else if sg i = 63 then paC (pa S w h sg d (i + 1)) (pa S w h sg d (nx sg i)) q else if 98 ≤ sg i ∧ sg i ≤ 100 then lpA (pa S w h sg d (i + 1)) 64 q else paL S w h (sg i) i q
theorem lf_not {s : Int} (h : isLf s = true) : s ≠ 59 ∧ s ≠ 63 ∧ ¬ (98 ≤ s ∧ s ≤ 100) := by
  refine ⟨?_, ?_, ?_⟩
  · rintro rfl; revert h; decide
  · rintro rfl; revert h; decide
  · intro q
    rcases (show s = 98 ∨ s = 99 ∨ s = 100 by omega) with rfl | rfl | rfl <;> (revert h; decide)
theorem pa_leaf {S w h : Nat} {sg : Nat → Int} {d i : Nat} {q : AS} (hl : isLf (sg i) = true) : pa S w h sg d i q = paL S w h (sg i) i q := by
  cases d with
  | zero => rfl
  | succ d =>
    obtain ⟨a, b, c⟩ := lf_not hl
    show (if sg i = 59 then _ else if sg i = 63 then _ else if 98 ≤ sg i ∧ sg i ≤ 100 then _ else _) = _
    rw [if_neg a, if_neg b, if_neg c]
theorem pa_seq {S w h : Nat} {sg : Nat → Int} {d i : Nat} {q : AS} (hs : sg i = 59) : pa S w h sg (d + 1) i q = pa S w h sg d (nx sg i) (pa S w h sg d (i + 1) q) := if_pos hs
theorem pa_cho {S w h : Nat} {sg : Nat → Int} {d i : Nat} {q : AS} (hs : sg i = 63) : pa S w h sg (d + 1) i q = paC (pa S w h sg d (i + 1)) (pa S w h sg d (nx sg i)) q := by
  show (if sg i = 59 then _ else if sg i = 63 then _ else _) = _
  rw [if_neg (by omega), if_pos hs]
theorem pa_loop {S w h : Nat} {sg : Nat → Int} {d i : Nat} {q : AS} (hs : 98 ≤ sg i ∧ sg i ≤ 100) : pa S w h sg (d + 1) i q = lpA (pa S w h sg d (i + 1)) 64 q := by
  show (if sg i = 59 then _ else if sg i = 63 then _ else if 98 ≤ sg i ∧ sg i ≤ 100 then _ else _) = _
  rw [if_neg (by omega), if_neg (by omega), if_pos hs]
/-! never past 2 -/
def bdA (a : AgT) : Prop := ∀ k, k < 16 → a k ≤ 2
theorem fA_bd {S w h l : Nat} {a : AgT} (hw : w ≤ 2) (hl : l < 8) (ha : bdA a) : bdA (fA S w h l a) := by
  intro k hk
  have hr := rm_le (S := S) (h := h) (s := l % S) hw
  unfold fA
  generalize rmS S w h (l % S) = R at *
  have a1 := ha k hk
  have a2 := ha l (by omega)
  by_cases c : hb h l = true ∨ R = 0
  · rw [if_pos c]; exact a1
  · rw [if_neg c]
    show (if k = l ∨ k = 8 + l then 0 else if k < 8 then (if k % S = l % S ∧ hb h k = false ∧ a k < a l then a k + 1 else a k) else if k < 16 then (if (k - 8) % S = l % S ∧ hb h (k - 8) = false ∧ a k ≤ a (8 + l) ∧ a k < R then a k + 1 else a k) else a k) ≤ 2
    by_cases c1 : k = l ∨ k = 8 + l
    · rw [if_pos c1]; omega
    · rw [if_neg c1]
      by_cases c2 : k < 8
      · rw [if_pos c2]
        by_cases c3 : k % S = l % S ∧ hb h k = false ∧ a k < a l
        · rw [if_pos c3]; exact Nat.le_trans c3.2.2 a2
        · rw [if_neg c3]; exact a1
      · rw [if_neg c2, if_pos hk]
        by_cases c3 : (k - 8) % S = l % S ∧ hb h (k - 8) = false ∧ a k ≤ a (8 + l) ∧ a k < R
        · rw [if_pos c3]; exact Nat.le_trans c3.2.2.2 hr
        · rw [if_neg c3]; exact a1
theorem jA_bd {a b : AgT} (ha : bdA a) (hb : bdA b) : bdA (jAg a b) := by
  intro k hk
  have a1 := ha k hk
  have a2 := hb k hk
  unfold jAg
  show (if _ then _ else _) ≤ 2
  split <;> split <;> omega
theorem lpA_bd {f : AS → AS} (hf : ∀ q, bdA q.1 → bdA (f q).1) : ∀ n q, bdA q.1 → bdA (lpA f n q).1 := by
  intro n
  induction n with
  | zero => intro q h; exact h
  | succ n ih =>
    intro q h
    have e : lpA f (n + 1) q = if sA (jAg (f q).1 q.1) q.1 then (jAg (f q).1 q.1, (f q).2) else lpA f n (jAg (f q).1 q.1, (f q).2) := rfl
    rw [e]
    by_cases c : sA (jAg (f q).1 q.1) q.1 = true
    · rw [if_pos c]; exact jA_bd (hf q h) h
    · rw [if_neg c]; exact ih _ (jA_bd (hf q h) h)
theorem pa_bd {S w h : Nat} {sg : Nat → Int} (hw : w ≤ 2) : ∀ d i q, bdA q.1 → bdA (pa S w h sg d i q).1 := by
  have hL : ∀ s i (q : AS), bdA q.1 → bdA (paL S w h s i q).1 := fun s i q hq => by
    unfold paL
    by_cases c : 48 ≤ s ∧ s ≤ 55
    · rw [if_pos c]; exact fA_bd hw (ln_lt c) hq
    · rw [if_neg c]; exact hq
  intro d
  induction d with
  | zero => intro i q hq; exact hL _ _ q hq
  | succ d ih =>
    intro i q hq
    have e : pa S w h sg (d + 1) i q = if sg i = 59 then pa S w h sg d (nx sg i) (pa S w h sg d (i + 1) q) else if sg i = 63 then paC (pa S w h sg d (i + 1)) (pa S w h sg d (nx sg i)) q else if 98 ≤ sg i ∧ sg i ≤ 100 then lpA (pa S w h sg d (i + 1)) 64 q else paL S w h (sg i) i q := rfl
    rw [e]
    by_cases c1 : sg i = 59
    · rw [if_pos c1]; exact ih _ _ (ih _ _ hq)
    · rw [if_neg c1]
      by_cases c2 : sg i = 63
      · rw [if_pos c2]; exact jA_bd (ih _ _ hq) (ih _ _ hq)
      · rw [if_neg c2]
        by_cases c3 : 98 ≤ sg i ∧ sg i ≤ 100
        · rw [if_pos c3]; exact lpA_bd (fun q hq => ih _ q hq) 64 q hq
        · rw [if_neg c3]; exact hL _ _ q hq
/-! what a loop has left -/
def phA (a : AgT) : Nat → Nat
  | 0 => 0
  | k + 1 => phA a k + (if k < 8 then 2 - a k else a k)
theorem phA_le {a : AgT} (ha : bdA a) : ∀ n, n ≤ 16 → phA a n ≤ 2 * n := by
  intro n
  induction n with
  | zero => intro _; exact Nat.le_refl _
  | succ n ih =>
    intro hn
    have := ih (by omega)
    have := ha n (by omega)
    show phA a n + (if n < 8 then 2 - a n else a n) ≤ 2 * (n + 1)
    split <;> omega
theorem phA_j {a b : AgT} (ha : bdA a) (hb : bdA b) : ∀ n, n ≤ 16 → phA (jAg a b) n ≤ phA b n ∧ ((∃ k, k < n ∧ jAg a b k ≠ b k) → phA (jAg a b) n < phA b n) := by
  intro n
  induction n with
  | zero => intro _; exact ⟨Nat.le_refl _, fun ⟨k, hk, _⟩ => by omega⟩
  | succ n ih =>
    intro hn
    obtain ⟨i1, i2⟩ := ih (by omega)
    have a1 := ha n (by omega)
    have a2 := hb n (by omega)
    have e1 : phA (jAg a b) (n + 1) = phA (jAg a b) n + (if n < 8 then 2 - jAg a b n else jAg a b n) := rfl
    have e2 : phA b (n + 1) = phA b n + (if n < 8 then 2 - b n else b n) := rfl
    have ej : jAg a b n = if n < 8 then (if a n < b n then b n else a n) else (if b n < a n then b n else a n) := rfl
    have hle : (if n < 8 then 2 - jAg a b n else jAg a b n) ≤ (if n < 8 then 2 - b n else b n) ∧ (jAg a b n ≠ b n → (if n < 8 then 2 - jAg a b n else jAg a b n) < (if n < 8 then 2 - b n else b n)) := by
      rw [ej]
      by_cases c : n < 8
      · rw [if_pos c, if_pos c, if_pos c]; split <;> omega
      · rw [if_neg c, if_neg c, if_neg c]; split <;> omega
    rw [e1, e2]
    refine ⟨by omega, fun ⟨k, hk, hne⟩ => ?_⟩
    by_cases c : k = n
    · subst c
      have := hle.2 hne
      omega
    · have := i2 ⟨k, by omega, hne⟩
      omega
theorem phA_lt {a b : AgT} (ha : bdA a) (hb : bdA b) (hs : ¬ sA (jAg a b) b = true) : phA (jAg a b) 16 < phA b 16 := by
  refine (phA_j ha hb 16 (Nat.le_refl _)).2 ?_
  exact Classical.byContradiction fun z => hs (sA_iff.mpr fun k hk => Classical.byContradiction fun y => z ⟨k, hk, y⟩)
/-! every fetch is come by -/
def hasA (sg : Nat → Int) (lo hi : Nat) (t : Nat → Option AgT) : Prop := ∀ j, lo ≤ j → j < hi → 48 ≤ sg j ∧ sg j ≤ 55 → ∃ a, t j = some a
def moA (t t' : Nat → Option AgT) : Prop := ∀ j a, t j = some a → ∃ a', t' j = some a'
theorem moA.has {sg : Nat → Int} {lo hi : Nat} {t t' : Nat → Option AgT} (h : moA t t') (g : hasA sg lo hi t) : hasA sg lo hi t' := fun j h1 h2 h3 => by
  obtain ⟨a, e⟩ := g j h1 h2 h3
  exact h j a e
theorem moA.tr {t t' t'' : Nat → Option AgT} (h : moA t t') (g : moA t' t'') : moA t t'' := fun j a e => by
  obtain ⟨a', e'⟩ := h j a e
  exact g j a' e'
theorem pa_mo {S w h : Nat} {sg : Nat → Int} : ∀ d i q, moA q.2 (pa S w h sg d i q).2 := by
  have hL : ∀ s i (q : AS), moA q.2 (paL S w h s i q).2 := fun s i q => by
    unfold paL
    by_cases c : 48 ≤ s ∧ s ≤ 55
    · rw [if_pos c]
      intro j a e
      show ∃ a', (if j = i then some q.1 else q.2 j) = some a'
      split
      · exact ⟨_, rfl⟩
      · exact ⟨a, e⟩
    · rw [if_neg c]; exact fun j a e => ⟨a, e⟩
  intro d
  induction d with
  | zero => intro i q; exact hL _ _ q
  | succ d ih =>
    intro i q
    have e : pa S w h sg (d + 1) i q = if sg i = 59 then pa S w h sg d (nx sg i) (pa S w h sg d (i + 1) q) else if sg i = 63 then paC (pa S w h sg d (i + 1)) (pa S w h sg d (nx sg i)) q else if 98 ≤ sg i ∧ sg i ≤ 100 then lpA (pa S w h sg d (i + 1)) 64 q else paL S w h (sg i) i q := rfl
    rw [e]
    by_cases c1 : sg i = 59
    · rw [if_pos c1]; exact (ih _ _).tr (ih _ _)
    · rw [if_neg c1]
      by_cases c2 : sg i = 63
      · rw [if_pos c2]; exact (ih (i + 1) q).tr (ih (nx sg i) (q.1, (pa S w h sg d (i + 1) q).2))
      · rw [if_neg c2]
        by_cases c3 : 98 ≤ sg i ∧ sg i ≤ 100
        · rw [if_pos c3]
          have : ∀ n (q : AS), moA q.2 (lpA (pa S w h sg d (i + 1)) n q).2 := by
            intro n
            induction n with
            | zero => intro q j a e; exact ⟨a, e⟩
            | succ n ihn =>
              intro q
              have e : lpA (pa S w h sg d (i + 1)) (n + 1) q = if sA (jAg (pa S w h sg d (i + 1) q).1 q.1) q.1 then (jAg (pa S w h sg d (i + 1) q).1 q.1, (pa S w h sg d (i + 1) q).2) else lpA (pa S w h sg d (i + 1)) n (jAg (pa S w h sg d (i + 1) q).1 q.1, (pa S w h sg d (i + 1) q).2) := rfl
              rw [e]
              split
              · exact ih (i + 1) q
              · exact (ih (i + 1) q).tr (ihn (jAg (pa S w h sg d (i + 1) q).1 q.1, (pa S w h sg d (i + 1) q).2))
          exact this 64 q
        · rw [if_neg c3]; exact hL _ _ q
theorem lpA_mo {f : AS → AS} (hf : ∀ q, moA q.2 (f q).2) : ∀ n q, moA (f q).2 (lpA f (n + 1) q).2 := by
  intro n
  induction n with
  | zero =>
    intro q
    have e : lpA f (0 + 1) q = if sA (jAg (f q).1 q.1) q.1 then (jAg (f q).1 q.1, (f q).2) else (jAg (f q).1 q.1, (f q).2) := rfl
    rw [e]
    split <;> exact fun j a e => ⟨a, e⟩
  | succ n ih =>
    intro q
    have e : lpA f (n + 1 + 1) q = if sA (jAg (f q).1 q.1) q.1 then (jAg (f q).1 q.1, (f q).2) else lpA f (n + 1) (jAg (f q).1 q.1, (f q).2) := rfl
    rw [e]
    split
    · exact fun j a e => ⟨a, e⟩
    · exact (hf (jAg (f q).1 q.1, (f q).2)).tr (ih _)
theorem pa_has {S w h : Nat} {sg : Nat → Int} : ∀ d, d ≤ 4 → ∀ i, wf sg d i = true → ∀ q, hasA sg i (i + zs sg 4 i) (pa S w h sg d i q).2 := by
  refine wf_ind sg (fun d i => ∀ q, hasA sg i (i + zs sg 4 i) (pa S w h sg d i q).2) ?_ ?_ ?_
  · intro d i _ hl hz q j h1 h2 h3
    obtain rfl : j = i := by omega
    rw [pa_leaf hl]
    unfold paL
    rw [if_pos h3]
    exact ⟨_, if_pos rfl⟩
  · intro d i _ hs hz _ ih q j h1 h2 h3
    have hj : j ≠ i := fun z => by subst z; omega
    rw [pa_loop hs]
    exact (lpA_mo (fun q => pa_mo d (i + 1) q) 63 q).has (ih q) j (by omega) (by omega) h3
  · intro d i _ hs hz _ _ ih1 ih2 q j h1 h2 h3
    have hx : nx sg i = i + 1 + zs sg 4 (i + 1) := rfl
    have hj : j ≠ i := fun z => by subst z; omega
    rcases hs with hs | hs
    · rw [pa_seq hs]
      by_cases c : j < nx sg i
      · exact (pa_mo d (nx sg i) _).has (ih1 q) j (by omega) (by omega) h3
      · exact ih2 _ j (by omega) (by omega) h3
    · rw [pa_cho hs]
      show ∃ a, (pa S w h sg d (nx sg i) (q.1, (pa S w h sg d (i + 1) q).2)).2 j = some a
      by_cases c : j < nx sg i
      · exact (pa_mo d (nx sg i) (q.1, (pa S w h sg d (i + 1) q).2)).has (ih1 q) j (by omega) (by omega) h3
      · exact ih2 _ j (by omega) (by omega) h3
/-- at the start -/
def inA (S w h : Nat) : AgT := fun k => if k < 8 then (if hb h k then 0 else rmS S w h (k % S)) else (if hb h (k - 8) then 0 else rmS S w h ((k - 8) % S))
theorem inA_bd {S w h : Nat} (hw : w ≤ 2) : bdA (inA S w h) := by
  intro k hk
  unfold inA
  have h1 := rm_le (S := S) (h := h) (s := k % S) hw
  have h2 := rm_le (S := S) (h := h) (s := (k - 8) % S) hw
  generalize rmS S w h (k % S) = R at *
  generalize rmS S w h ((k - 8) % S) = R' at *
  split <;> split <;> omega
