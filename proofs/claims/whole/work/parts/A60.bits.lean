/-! bits of small numbers -/
theorem jbv (a : Nat) : (Int32.ofInt (a : Int)).toBitVec = BitVec.ofNat 32 a := by
  rw [Int32.toBitVec_ofInt, BitVec.ofInt_natCast]
theorem jbv_toInt (x : BitVec 32) (h : x.toNat < 2147483648) : x.toInt = (x.toNat : Int) := BitVec.toInt_eq_toNat_of_lt (by omega)
theorem jor_nat {a b : Nat} (ha : a < 2147483648) (hb : b < 2147483648) : jor (a : Int) (b : Int) = ((a ||| b : Nat) : Int) := by
  have hab : a ||| b < 2147483648 := Nat.or_lt_two_pow (n := 31) ha hb
  unfold jor
  rw [← Int32.toInt_toBitVec, Int32.toBitVec_or, jbv, jbv]
  have e : (BitVec.ofNat 32 a ||| BitVec.ofNat 32 b).toNat = a ||| b := by
    rw [BitVec.toNat_or, BitVec.toNat_ofNat, BitVec.toNat_ofNat, Nat.mod_eq_of_lt (by omega), Nat.mod_eq_of_lt (by omega)]
  rw [jbv_toInt _ (by rw [e]; exact hab), e]
theorem jand_nat {a b : Nat} (ha : a < 2147483648) (hb : b < 2147483648) : jand (a : Int) (b : Int) = ((a &&& b : Nat) : Int) := by
  have hab : a &&& b < 2147483648 := Nat.and_lt_two_pow (n := 31) a hb
  unfold jand
  rw [← Int32.toInt_toBitVec, Int32.toBitVec_and, jbv, jbv]
  have e : (BitVec.ofNat 32 a &&& BitVec.ofNat 32 b).toNat = a &&& b := by
    rw [BitVec.toNat_and, BitVec.toNat_ofNat, BitVec.toNat_ofNat, Nat.mod_eq_of_lt (by omega), Nat.mod_eq_of_lt (by omega)]
  rw [jbv_toInt _ (by rw [e]; exact hab), e]
theorem jand_1 {a : Nat} (ha : a < 2147483648) : jand (a : Int) 1 = ((a % 2 : Nat) : Int) := by
  have h := jand_nat ha (b := 1) (by decide)
  rw [Nat.and_one_is_mod] at h
  exact h
theorem jw_nat {n : Nat} (h : n ≤ 2147483647) : jw (n : Int) = (n : Int) := jw_eq (by omega) (by omega)
theorem jw_succ {n : Nat} (h : n < 2147483647) : jw ((n : Int) + 1) = ((n + 1 : Nat) : Int) := by rw [jw_eq (by omega) (by omega)]; rfl
theorem jshl_one : ∀ l : Fin 8, jshl 1 (l.val : Int) = ((2 ^ l.val : Nat) : Int) := by decide +kernel
theorem jshr_dec : ∀ h : Fin 256, ∀ l : Fin 8, jand (jshr (h.val : Int) (l.val : Int)) 1 = (if h.val.testBit l.val then 1 else 0) := by decide +kernel
theorem jshr_half : ∀ h : Fin 1300, jshr (h.val : Int) 1 = ((h.val / 2 : Nat) : Int) := by decide +kernel
/-- is a line among these -/
def hb (h l : Nat) : Bool := h.testBit l
theorem jbit {h l : Nat} (hh : h < 256) (hl : l < 8) : jand (jshr (h : Int) (l : Int)) 1 = (if hb h l then 1 else 0) := jshr_dec ⟨h, hh⟩ ⟨l, hl⟩
theorem lb_lt (s : Int) : lb s < 256 := by
  unfold lb
  split
  · rename_i h
    have : (s - 48).toNat ≤ 7 := by omega
    calc 2 ^ (s - 48).toNat ≤ 2 ^ 7 := Nat.pow_le_pow_right (by decide) this
      _ < 256 := by decide
  · decide
theorem lr_lt (sg : Nat → Int) (i n : Nat) : lr sg i n < 256 := by
  induction n with
  | zero => exact (by decide : 0 < 256)
  | succ n ih => exact Nat.or_lt_two_pow (n := 8) ih (lb_lt _)
/-! texts -/
theorem isLf_iff {s : Int} : isLf s = true ↔ s = 45 ∨ (48 ≤ s ∧ s ≤ 55) := by
  unfold isLf
  simp
theorem pt_1 {s : Int} : pt s = 1 ↔ 98 ≤ s ∧ s ≤ 100 := by
  unfold pt
  split
  · constructor
    · intro h; cases h
    · intro h; omega
  · split
    · simp_all
    · constructor
      · intro h; cases h
      · intro h; contradiction
theorem pt_2 {s : Int} : pt s = 2 ↔ s = 59 ∨ s = 63 := by
  unfold pt
  split
  · simp_all
  · split
    · constructor
      · intro h; cases h
      · intro h; contradiction
    · constructor
      · intro h; cases h
      · intro h; contradiction
theorem pt_0 {s : Int} (h : isLf s = true) : pt s = 0 := by
  rw [isLf_iff] at h
  unfold pt
  rw [if_neg (by omega), if_neg (by omega)]
theorem wf_0 {sg : Nat → Int} {i : Nat} : wf sg 0 i = true ↔ isLf (sg i) = true := Iff.rfl
theorem wf_s {sg : Nat → Int} {d i : Nat} : wf sg (d + 1) i = true ↔ isLf (sg i) = true ∨ (pt (sg i) = 1 ∧ wf sg d (i + 1) = true) ∨ (pt (sg i) = 2 ∧ wf sg d (i + 1) = true ∧ wf sg d (i + 1 + zs sg d (i + 1)) = true) := by
  show (isLf (sg i) || (pt (sg i) == 1 && wf sg d (i + 1)) || (pt (sg i) == 2 && wf sg d (i + 1) && wf sg d (i + 1 + zs sg d (i + 1)))) = true ↔ _
  simp only [Bool.or_eq_true, Bool.and_eq_true, beq_iff_eq]
  constructor
  · rintro ((h | h) | h)
    · exact Or.inl h
    · exact Or.inr (Or.inl h)
    · exact Or.inr (Or.inr ⟨h.1.1, h.1.2, h.2⟩)
  · rintro (h | h | h)
    · exact Or.inl (Or.inl h)
    · exact Or.inl (Or.inr h)
    · exact Or.inr ⟨⟨h.1, h.2.1⟩, h.2.2⟩
theorem zs_s0 {sg : Nat → Int} {d i : Nat} (h : pt (sg i) = 0) : zs sg d i = 1 := by
  cases d with
  | zero => rfl
  | succ d => show (if pt (sg i) = 2 then _ else if pt (sg i) = 1 then _ else 1) = 1; rw [h]; rfl
theorem zs_s1 {sg : Nat → Int} {d i : Nat} (h : pt (sg i) = 1) : zs sg (d + 1) i = 1 + zs sg d (i + 1) := by
  show (if pt (sg i) = 2 then _ else if pt (sg i) = 1 then _ else 1) = _; rw [h]; rfl
theorem zs_s2 {sg : Nat → Int} {d i : Nat} (h : pt (sg i) = 2) : zs sg (d + 1) i = 1 + zs sg d (i + 1) + zs sg d (i + 1 + zs sg d (i + 1)) := by
  show (if pt (sg i) = 2 then _ else if pt (sg i) = 1 then _ else 1) = _; rw [h]; rfl
theorem wf_mono {sg : Nat → Int} : ∀ (d i : Nat), wf sg d i = true → wf sg (d + 1) i = true ∧ zs sg (d + 1) i = zs sg d i := by
  intro d
  induction d with
  | zero => intro i h; exact ⟨wf_s.mpr (Or.inl (wf_0.mp h)), by rw [zs_s0 (pt_0 (wf_0.mp h)), zs_s0 (pt_0 (wf_0.mp h))]⟩
  | succ d ih =>
    intro i h
    rcases wf_s.mp h with h | ⟨h, h1⟩ | ⟨h, h1, h2⟩
    · exact ⟨wf_s.mpr (Or.inl h), by rw [zs_s0 (pt_0 h), zs_s0 (pt_0 h)]⟩
    · have a := ih _ h1
      exact ⟨wf_s.mpr (Or.inr (Or.inl ⟨h, a.1⟩)), by rw [zs_s1 h, zs_s1 h, a.2]⟩
    · have a := ih _ h1
      have b := ih _ h2
      exact ⟨wf_s.mpr (Or.inr (Or.inr ⟨h, a.1, by rw [a.2]; exact b.1⟩)), by rw [zs_s2 h, zs_s2 h, a.2, b.2]⟩
theorem wf_le {sg : Nat → Int} {d i : Nat} (h : wf sg d i = true) : ∀ e, wf sg (d + e) i = true ∧ zs sg (d + e) i = zs sg d i := by
  intro e
  induction e with
  | zero => exact ⟨h, rfl⟩
  | succ e ih => have a := wf_mono _ _ ih.1; exact ⟨a.1, a.2.trans ih.2⟩
theorem wf_4 {sg : Nat → Int} {d i : Nat} (hd : d ≤ 4) (h : wf sg d i = true) : wf sg 4 i = true ∧ zs sg 4 i = zs sg d i := by
  have a := wf_le h (4 - d)
  rw [show d + (4 - d) = 4 by omega] at a
  exact a
/-- where the second part begins -/
def nx (sg : Nat → Int) (i : Nat) : Nat := i + 1 + zs sg 4 (i + 1)
theorem wf_ind (sg : Nat → Int) (P : Nat → Nat → Prop)
    (hl : ∀ d i, d ≤ 4 → isLf (sg i) = true → zs sg 4 i = 1 → P d i)
    (h1 : ∀ d i, d + 1 ≤ 4 → 98 ≤ sg i ∧ sg i ≤ 100 → zs sg 4 i = 1 + zs sg 4 (i + 1) → wf sg d (i + 1) = true → P d (i + 1) → P (d + 1) i)
    (h2 : ∀ d i, d + 1 ≤ 4 → sg i = 59 ∨ sg i = 63 → zs sg 4 i = 1 + zs sg 4 (i + 1) + zs sg 4 (nx sg i) → wf sg d (i + 1) = true → wf sg d (nx sg i) = true → P d (i + 1) → P d (nx sg i) → P (d + 1) i) :
    ∀ d, d ≤ 4 → ∀ i, wf sg d i = true → P d i := by
  intro d
  induction d with
  | zero => intro _ i h; exact hl 0 i (by omega) (wf_0.mp h) (zs_s0 (pt_0 (wf_0.mp h)))
  | succ d ih =>
    intro hd i h
    have hd' : d ≤ 4 := by omega
    have ez := (wf_4 hd h).2
    rcases wf_s.mp h with h | ⟨h, a⟩ | ⟨h, a, b⟩
    · exact hl _ i hd h (zs_s0 (pt_0 h))
    · exact h1 d i hd (pt_1.mp h) (by rw [ez, zs_s1 h, (wf_4 hd' a).2]) a (ih hd' _ a)
    · have e := (wf_4 hd' a).2
      have en : nx sg i = i + 1 + zs sg d (i + 1) := by unfold nx; rw [e]
      rw [← en] at b
      exact h2 d i hd (pt_2.mp h) (by rw [ez, zs_s2 h, e, ← en, (wf_4 hd' b).2]) a b (ih hd' _ a) (ih hd' _ b)
theorem zs_pos (sg : Nat → Int) (d i : Nat) : 1 ≤ zs sg d i := by
  cases d with
  | zero => exact Nat.le_refl 1
  | succ d =>
    show 1 ≤ (if pt (sg i) = 2 then _ else if pt (sg i) = 1 then _ else 1)
    split
    · omega
    · split
      · omega
      · omega
theorem wf_in {sg : Nat → Int} : ∀ d, d ≤ 4 → ∀ i, wf sg d i = true → ∀ j, i ≤ j → j < i + zs sg 4 i → wf sg 4 j = true ∧ j + zs sg 4 j ≤ i + zs sg 4 i := by
  refine wf_ind sg (fun d i => ∀ j, i ≤ j → j < i + zs sg 4 i → wf sg 4 j = true ∧ j + zs sg 4 j ≤ i + zs sg 4 i) ?_ ?_ ?_
  · intro d i hd hl hz j h1 h2
    have : j = i := by omega
    subst this
    exact ⟨wf_s.mpr (Or.inl hl), Nat.le_refl _⟩
  · intro d i hd hs hz hw ih j h1 h2
    by_cases e : j = i
    · subst e
      exact ⟨(wf_4 hd (wf_s.mpr (Or.inr (Or.inl ⟨pt_1.mpr hs, hw⟩)))).1, Nat.le_refl _⟩
    · have := ih j (by omega) (by omega)
      exact ⟨this.1, by omega⟩
  · intro d i hd hs hz hw hw2 ih ih2 j h1 h2
    have en : nx sg i = i + 1 + zs sg 4 (i + 1) := rfl
    by_cases e : j = i
    · subst e
      have e := (wf_4 (show d ≤ 4 by omega) hw).2
      have en : nx sg j = j + 1 + zs sg d (j + 1) := by unfold nx; rw [e]
      exact ⟨(wf_4 hd (wf_s.mpr (Or.inr (Or.inr ⟨pt_2.mpr hs, hw, by rw [← en]; exact hw2⟩)))).1, Nat.le_refl _⟩
    · by_cases c : j < i + 1 + zs sg 4 (i + 1)
      · have := ih j (by omega) c
        exact ⟨this.1, by omega⟩
      · have := ih2 j (by omega) (by omega)
        exact ⟨this.1, by omega⟩
theorem TX.node {cn : Nat} {sg : Nat → Int} (h : TX cn sg) {i : Nat} (hi : i < cn) : wf sg 4 i = true ∧ i + zs sg 4 i ≤ cn := by
  have a := wf_in 4 (Nat.le_refl 4) 0 h.2.1 i (Nat.zero_le _) (by rw [h.2.2]; omega)
  rw [h.2.2] at a
  exact ⟨a.1, by omega⟩
theorem TX.pos {cn : Nat} {sg : Nat → Int} (h : TX cn sg) : 1 ≤ cn := by rw [← h.2.2]; exact zs_pos _ _ _
theorem TX.sign {cn : Nat} {sg : Nat → Int} (h : TX cn sg) {i : Nat} (hi : i < cn) : isLf (sg i) = true ∨ (98 ≤ sg i ∧ sg i ≤ 100) ∨ sg i = 59 ∨ sg i = 63 := by
  rcases wf_s.mp (h.node hi).1 with h | ⟨h, a⟩ | ⟨h, a, b⟩
  · exact Or.inl h
  · exact Or.inr (Or.inl (pt_1.mp h))
  · exact Or.inr (Or.inr (pt_2.mp h))
/-- children of a node, by sizes of depth 4 -/
theorem TX.one {cn : Nat} {sg : Nat → Int} (h : TX cn sg) {i : Nat} (hi : i < cn) (hp : pt (sg i) = 1) : zs sg 4 i = 1 + zs sg 4 (i + 1) ∧ i + 1 < cn := by
  have hn := h.node hi
  rcases wf_s.mp hn.1 with a | ⟨a, a1⟩ | ⟨a, a1, a2⟩
  · rw [pt_0 a] at hp; cases hp
  · have e := (wf_4 (show 3 ≤ 4 by decide) a1).2
    have : zs sg 4 i = 1 + zs sg 4 (i + 1) := by rw [e]; exact zs_s1 a
    exact ⟨this, by have := zs_pos sg 4 (i + 1); omega⟩
  · rw [a] at hp; cases hp
theorem TX.two {cn : Nat} {sg : Nat → Int} (h : TX cn sg) {i : Nat} (hi : i < cn) (hp : pt (sg i) = 2) : zs sg 4 i = 1 + zs sg 4 (i + 1) + zs sg 4 (nx sg i) ∧ i + 1 < cn ∧ nx sg i < cn := by
  have hn := h.node hi
  rcases wf_s.mp hn.1 with a | ⟨a, a1⟩ | ⟨a, a1, a2⟩
  · rw [pt_0 a] at hp; cases hp
  · rw [a] at hp; cases hp
  · have e := (wf_4 (show 3 ≤ 4 by decide) a1).2
    have en : nx sg i = i + 1 + zs sg 3 (i + 1) := by unfold nx; rw [e]
    rw [← en] at a2
    have e2 := (wf_4 (show 3 ≤ 4 by decide) a2).2
    have : zs sg 4 i = 1 + zs sg 4 (i + 1) + zs sg 4 (nx sg i) := by rw [e, e2]; rw [en]; exact zs_s2 a
    exact ⟨this, by have := zs_pos sg 4 (i + 1); omega, by have := zs_pos sg 4 (nx sg i); unfold nx at *; omega⟩
