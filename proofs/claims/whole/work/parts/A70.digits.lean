/-! one set: what lies there as a digit. x, y: newest, older, 0 none, 1 + which -/
def bsD (n : Nat) : Nat := 1 + n + n * (n - 1)
def nwD (n e : Nat) : Nat := if e = 0 then 0 else if e ≤ n then e else (e - 1 - n) / (n - 1) + 1
def odD (n e : Nat) : Nat := if e ≤ n then 0 else (if (e - 1 - n) % (n - 1) < (e - 1 - n) / (n - 1) then (e - 1 - n) % (n - 1) else (e - 1 - n) % (n - 1) + 1) + 1
def prD (n a b : Nat) : Nat := 1 + n + a * (n - 1) + (if b < a then b else b - 1)
def dgD (n r a e : Nat) : Nat := if r = 1 ∨ (r = 2 ∧ nwD n e = 0) then 1 + a else if r = 2 ∧ nwD n e ≠ a + 1 then prD n a (nwD n e - 1) else e
def htD (n a e : Nat) : Bool := decide (nwD n e = a + 1) || decide (odD n e = a + 1)
def stX (r a x : Nat) : Nat := if r = 0 then x else a + 1
def stY (r a x y : Nat) : Nat := if r = 2 then (if x = a + 1 then y else x) else if r = 1 then 0 else y
def isN (n : Nat) : Prop := n = 2 ∨ n = 4 ∨ n = 8
theorem dg_2 : ∀ r : Fin 3, ∀ a : Fin 2, ∀ e : Fin 5, nwD 2 (dgD 2 r.val a.val e.val) = stX r.val a.val (nwD 2 e.val) ∧ odD 2 (dgD 2 r.val a.val e.val) = stY r.val a.val (nwD 2 e.val) (odD 2 e.val) ∧ dgD 2 r.val a.val e.val < 5 := by decide +kernel
theorem dg_4 : ∀ r : Fin 3, ∀ a : Fin 4, ∀ e : Fin 17, nwD 4 (dgD 4 r.val a.val e.val) = stX r.val a.val (nwD 4 e.val) ∧ odD 4 (dgD 4 r.val a.val e.val) = stY r.val a.val (nwD 4 e.val) (odD 4 e.val) ∧ dgD 4 r.val a.val e.val < 17 := by decide +kernel
theorem dg_8 : ∀ r : Fin 3, ∀ a : Fin 8, ∀ e : Fin 65, nwD 8 (dgD 8 r.val a.val e.val) = stX r.val a.val (nwD 8 e.val) ∧ odD 8 (dgD 8 r.val a.val e.val) = stY r.val a.val (nwD 8 e.val) (odD 8 e.val) ∧ dgD 8 r.val a.val e.val < 65 := by decide +kernel
theorem dg_spec {n r a e : Nat} (hn : isN n) (hr : r ≤ 2) (ha : a < n) (he : e < bsD n) : nwD n (dgD n r a e) = stX r a (nwD n e) ∧ odD n (dgD n r a e) = stY r a (nwD n e) (odD n e) ∧ dgD n r a e < bsD n := by
  rcases hn with rfl | rfl | rfl
  · exact dg_2 ⟨r, by omega⟩ ⟨a, ha⟩ ⟨e, he⟩
  · exact dg_4 ⟨r, by omega⟩ ⟨a, ha⟩ ⟨e, he⟩
  · exact dg_8 ⟨r, by omega⟩ ⟨a, ha⟩ ⟨e, he⟩
def xyD (n e : Nat) : Prop := nwD n e ≤ n ∧ odD n e ≤ n ∧ (odD n e ≠ 0 → nwD n e ≠ 0 ∧ odD n e ≠ nwD n e) ∧ e = (if odD n e = 0 then nwD n e else prD n (nwD n e - 1) (odD n e - 1))
theorem xy_2 : ∀ e : Fin 5, nwD 2 e.val ≤ 2 ∧ odD 2 e.val ≤ 2 ∧ (odD 2 e.val ≠ 0 → nwD 2 e.val ≠ 0 ∧ odD 2 e.val ≠ nwD 2 e.val) ∧ e.val = (if odD 2 e.val = 0 then nwD 2 e.val else prD 2 (nwD 2 e.val - 1) (odD 2 e.val - 1)) := by decide +kernel
theorem xy_4 : ∀ e : Fin 17, nwD 4 e.val ≤ 4 ∧ odD 4 e.val ≤ 4 ∧ (odD 4 e.val ≠ 0 → nwD 4 e.val ≠ 0 ∧ odD 4 e.val ≠ nwD 4 e.val) ∧ e.val = (if odD 4 e.val = 0 then nwD 4 e.val else prD 4 (nwD 4 e.val - 1) (odD 4 e.val - 1)) := by decide +kernel
theorem xy_8 : ∀ e : Fin 65, nwD 8 e.val ≤ 8 ∧ odD 8 e.val ≤ 8 ∧ (odD 8 e.val ≠ 0 → nwD 8 e.val ≠ 0 ∧ odD 8 e.val ≠ nwD 8 e.val) ∧ e.val = (if odD 8 e.val = 0 then nwD 8 e.val else prD 8 (nwD 8 e.val - 1) (odD 8 e.val - 1)) := by decide +kernel
theorem xy_spec {n e : Nat} (hn : isN n) (he : e < bsD n) : xyD n e := by
  rcases hn with rfl | rfl | rfl
  · exact xy_2 ⟨e, he⟩
  · exact xy_4 ⟨e, he⟩
  · exact xy_8 ⟨e, he⟩
theorem xy_inj {n e e' : Nat} (hn : isN n) (he : e < bsD n) (he' : e' < bsD n) (hx : nwD n e = nwD n e') (hy : odD n e = odD n e') : e = e' := by
  have h := (xy_spec hn he).2.2.2
  have h' := (xy_spec hn he').2.2.2
  rw [hx, hy] at h
  exact h.trans h'.symm
/-! counting members -/
def cnt (f : Nat → Bool) : Nat → Nat
  | 0 => 0
  | a + 1 => cnt f a + (if f a then 1 else 0)
theorem cnt_mono {f : Nat → Bool} {a b : Nat} (h : a ≤ b) : cnt f a ≤ cnt f b := by
  induction b with
  | zero => rw [show a = 0 by omega]; exact Nat.le_refl _
  | succ b ih =>
    by_cases c : a = b + 1
    · rw [c]; exact Nat.le_refl _
    · have := ih (by omega)
      show _ ≤ cnt f b + _
      omega
theorem cnt_le (f : Nat → Bool) (a : Nat) : cnt f a ≤ a := by
  induction a with
  | zero => exact Nat.le_refl 0
  | succ a ih =>
    show cnt f a + (if f a then 1 else 0) ≤ a + 1
    split <;> omega
theorem cnt_lt {f : Nat → Bool} {a b : Nat} (h : a < b) (hf : f a = true) : cnt f a < cnt f b := by
  have h1 : cnt f (a + 1) ≤ cnt f b := cnt_mono h
  have h2 : cnt f (a + 1) = cnt f a + 1 := by show cnt f a + (if f a then 1 else 0) = _; rw [if_pos hf]
  omega
theorem cnt_inj {f : Nat → Bool} {a b : Nat} (ha : f a = true) (hb : f b = true) (h : cnt f a = cnt f b) : a = b := by
  rcases Nat.lt_trichotomy a b with c | c | c
  · have := cnt_lt c ha; omega
  · exact c
  · have := cnt_lt c hb; omega
theorem cnt_congr {f g : Nat → Bool} {a : Nat} (h : ∀ i, i < a → f i = g i) : cnt f a = cnt g a := by
  induction a with
  | zero => rfl
  | succ a ih =>
    show cnt f a + _ = cnt g a + _
    rw [ih (fun i hi => h i (by omega)), h a (by omega)]
/-! the class's digit -/
def vdD (n : Nat) (f : Nat → Bool) (r x y : Nat) : Prop := x ≤ n ∧ y ≤ n ∧ (x ≠ 0 → f (x - 1) = true) ∧ (y ≠ 0 → f (y - 1) = true ∧ x ≠ 0 ∧ y ≠ x) ∧ (r = 0 → x = 0) ∧ (r = 1 → y = 0)
def cdD (n : Nat) (f : Nat → Bool) (r x y : Nat) : Nat := if x = 0 ∨ r = 0 then 0 else if r = 1 then 1 + cnt f (x - 1) else 1 + cnt f n * cnt f (x - 1) + (if y = 0 then cnt f (x - 1) else cnt f (y - 1))
def lkD (r M : Nat) : Nat := if r = 1 then 1 + M else if r = 2 then 1 + M * M else 1
theorem vd_step {n r a x y : Nat} {f : Nat → Bool} (hv : vdD n f r x y) (hr : r ≤ 2) (ha : a < n) (hf : f a = true) : vdD n f r (stX r a x) (stY r a x y) := by
  obtain ⟨h1, h2, h3, h4, h5, h6⟩ := hv
  unfold stX stY
  rcases (show r = 0 ∨ r = 1 ∨ r = 2 by omega) with rfl | rfl | rfl
  · have hx := h5 rfl
    exact ⟨h1, h2, h3, h4, h5, h6⟩
  · refine ⟨(show a + 1 ≤ n by omega), Nat.zero_le _, fun _ => hf, fun h => absurd rfl h, fun h => (by cases h), fun _ => rfl⟩
  · rw [if_neg (by decide), if_pos rfl]
    by_cases c : x = a + 1
    · rw [if_pos c]
      subst c
      exact ⟨h1, h2, h3, h4, fun h => (by cases h), fun h => (by cases h)⟩
    · rw [if_neg c]
      exact ⟨by omega, h1, fun _ => by simpa using hf, fun h => ⟨h3 h, by omega, by omega⟩, fun h => (by cases h), fun h => by cases h⟩
theorem rk_lt {n a : Nat} {f : Nat → Bool} (ha : a < n) (hf : f a = true) : cnt f a < cnt f n := cnt_lt ha hf
/-- older one's rank, or the newest one's -/
def oyD (f : Nat → Bool) (x y : Nat) : Nat := if y = 0 then cnt f (x - 1) else cnt f (y - 1)
theorem oy_lt {n r x y : Nat} {f : Nat → Bool} (hv : vdD n f r x y) (hx : x ≠ 0) : oyD f x y < cnt f n := by
  obtain ⟨h1, h2, h3, h4, h5, h6⟩ := hv
  unfold oyD
  split
  · exact rk_lt (by omega) (h3 hx)
  · rename_i hy
    exact rk_lt (by omega) (h4 hy).1
theorem cd_0 {n r x y : Nat} {f : Nat → Bool} (h : x = 0 ∨ r = 0) : cdD n f r x y = 0 := if_pos h
theorem cd_1 {n x y : Nat} {f : Nat → Bool} (h : x ≠ 0) : cdD n f 1 x y = 1 + cnt f (x - 1) := by
  unfold cdD
  rw [if_neg (by omega), if_pos rfl]
theorem cd_2 {n x y : Nat} {f : Nat → Bool} (h : x ≠ 0) : cdD n f 2 x y = 1 + cnt f n * cnt f (x - 1) + oyD f x y := by
  unfold cdD oyD
  rw [if_neg (by omega), if_neg (by decide)]
theorem cd_2div {n x y : Nat} {f : Nat → Bool} (hv : vdD n f 2 x y) (h : x ≠ 0) : (cdD n f 2 x y - 1) / cnt f n = cnt f (x - 1) ∧ (cdD n f 2 x y - 1) % cnt f n = oyD f x y := by
  have hl := oy_lt hv h
  rw [cd_2 h, show 1 + cnt f n * cnt f (x - 1) + oyD f x y - 1 = oyD f x y + cnt f n * cnt f (x - 1) by omega]
  refine ⟨?_, ?_⟩
  · rw [Nat.add_mul_div_left _ _ (by omega), Nat.div_eq_of_lt hl, Nat.zero_add]
  · rw [Nat.add_mul_mod_self_left, Nat.mod_eq_of_lt hl]
theorem cd_lt {n r x y : Nat} {f : Nat → Bool} (hv : vdD n f r x y) (hr : r ≤ 2) : cdD n f r x y < lkD r (cnt f n) := by
  obtain ⟨h1, h2, h3, h4, h5, h6⟩ := id hv
  by_cases c : x = 0 ∨ r = 0
  · rw [cd_0 c]
    unfold lkD
    split
    · omega
    · split
      · omega
      · omega
  · have hx : x ≠ 0 := fun q => c (Or.inl q)
    have hk := rk_lt (f := f) (show x - 1 < n by omega) (h3 hx)
    rcases (show r = 1 ∨ r = 2 by omega) with rfl | rfl
    · rw [cd_1 hx]
      show _ < 1 + cnt f n
      omega
    · have hl := oy_lt hv hx
      rw [cd_2 hx]
      show _ < 1 + cnt f n * cnt f n
      have : cnt f n * cnt f (x - 1) + cnt f n ≤ cnt f n * cnt f n := by
        rw [← Nat.mul_succ]
        exact Nat.mul_le_mul_left _ hk
      omega
theorem cd_inj {n r x y x' y' : Nat} {f : Nat → Bool} (hv : vdD n f r x y) (hv' : vdD n f r x' y') (hr : r ≤ 2) (h : cdD n f r x y = cdD n f r x' y') : x = x' ∧ y = y' := by
  obtain ⟨h1, h2, h3, h4, h5, h6⟩ := id hv
  obtain ⟨g1, g2, g3, g4, g5, g6⟩ := id hv'
  have hy0 : x = 0 → y = 0 := fun q => by
    by_cases c : y = 0
    · exact c
    · exact absurd q (h4 c).2.1
  have gy0 : x' = 0 → y' = 0 := fun q => by
    by_cases c : y' = 0
    · exact c
    · exact absurd q (g4 c).2.1
  rcases (show r = 0 ∨ r = 1 ∨ r = 2 by omega) with rfl | rfl | rfl
  · have a := h5 rfl
    have b := g5 rfl
    exact ⟨by omega, by rw [hy0 a, gy0 b]⟩
  · refine ⟨?_, by rw [h6 rfl, g6 rfl]⟩
    by_cases c : x = 0
    · by_cases c' : x' = 0
      · omega
      · rw [cd_0 (Or.inl c), cd_1 c'] at h; omega
    · by_cases c' : x' = 0
      · rw [cd_1 c, cd_0 (Or.inl c')] at h; omega
      · rw [cd_1 c, cd_1 c'] at h
        have := cnt_inj (h3 c) (g3 c') (by omega)
        omega
  · by_cases c : x = 0
    · by_cases c' : x' = 0
      · exact ⟨by omega, by rw [hy0 c, gy0 c']⟩
      · rw [cd_0 (Or.inl c), cd_2 c'] at h; omega
    · by_cases c' : x' = 0
      · rw [cd_2 c, cd_0 (Or.inl c')] at h; omega
      · have d := cd_2div hv c
        have d' := cd_2div hv' c'
        rw [h] at d
        have e1 : cnt f (x - 1) = cnt f (x' - 1) := d.1.symm.trans d'.1
        have e2 : oyD f x y = oyD f x' y' := d.2.symm.trans d'.2
        have ex : x = x' := by have := cnt_inj (h3 c) (g3 c') e1; omega
        subst ex
        refine ⟨rfl, ?_⟩
        unfold oyD at e2
        by_cases k : y = 0
        · by_cases k' : y' = 0
          · omega
          · rw [if_pos k, if_neg k'] at e2
            have := cnt_inj (h3 c) (g4 k').1 e2
            have := (g4 k').2.2
            omega
        · by_cases k' : y' = 0
          · rw [if_neg k, if_pos k'] at e2
            have := cnt_inj (h4 k).1 (h3 c) e2
            have := (h4 k).2.2
            omega
          · rw [if_neg k, if_neg k'] at e2
            have := cnt_inj (h4 k).1 (g4 k').1 e2
            omega
/-- the class's next digit, and whether it hits, out of its digit -/
def nlD (M r rk c : Nat) : Nat := if r = 0 then 0 else if r = 1 then 1 + rk else if c ≠ 0 ∧ (c - 1) / M = rk then c else 1 + M * rk + (if c = 0 then rk else (c - 1) / M)
def lyD (M r rk c : Nat) : Bool := if r = 0 ∨ c = 0 then false else if r = 1 then decide (c = 1 + rk) else decide ((c - 1) / M = rk) || decide ((c - 1) % M = rk)
theorem nl_spec {n r a x y : Nat} {f : Nat → Bool} (hv : vdD n f r x y) (hr : r ≤ 2) (ha : a < n) (hf : f a = true) : cdD n f r (stX r a x) (stY r a x y) = nlD (cnt f n) r (cnt f a) (cdD n f r x y) := by
  obtain ⟨h1, h2, h3, h4, h5, h6⟩ := id hv
  rcases (show r = 0 ∨ r = 1 ∨ r = 2 by omega) with rfl | rfl | rfl
  · rw [cd_0 (Or.inr rfl)]; rfl
  · show cdD n f 1 (a + 1) 0 = 1 + cnt f a
    rw [cd_1 (by omega)]; rfl
  · show cdD n f 2 (a + 1) (if x = a + 1 then y else x) = if cdD n f 2 x y ≠ 0 ∧ (cdD n f 2 x y - 1) / cnt f n = cnt f a then cdD n f 2 x y else 1 + cnt f n * cnt f a + (if cdD n f 2 x y = 0 then cnt f a else (cdD n f 2 x y - 1) / cnt f n)
    by_cases c : x = 0
    · rw [cd_0 (Or.inl c), if_neg (by omega), if_neg (by omega), if_pos rfl, cd_2 (by omega)]
      unfold oyD
      rw [if_pos c]; rfl
    · have d := cd_2div hv c
      have ne : cdD n f 2 x y ≠ 0 := by rw [cd_2 c]; omega
      rw [d.1]
      by_cases k : x = a + 1
      · subst k
        rw [if_pos rfl, if_pos ⟨ne, rfl⟩]
      · rw [if_neg k, if_neg (fun q => by have := cnt_inj (h3 c) hf q.2; omega), if_neg ne, cd_2 (by omega)]
        unfold oyD
        rw [if_neg c]; rfl
theorem ly_spec {n r a x y : Nat} {f : Nat → Bool} (hv : vdD n f r x y) (hr : r ≤ 2) (hf : f a = true) : lyD (cnt f n) r (cnt f a) (cdD n f r x y) = (decide (x = a + 1) || decide (y = a + 1)) := by
  obtain ⟨h1, h2, h3, h4, h5, h6⟩ := id hv
  have hy0 : x = 0 → y = 0 := fun q => by
    by_cases c : y = 0
    · exact c
    · exact absurd q (h4 c).2.1
  unfold lyD
  by_cases c : x = 0
  · have := hy0 c
    rw [cd_0 (Or.inl c), if_pos (Or.inr rfl), c, this]
    simp
  · rcases (show r = 0 ∨ r = 1 ∨ r = 2 by omega) with rfl | rfl | rfl
    · exact absurd (h5 rfl) c
    · rw [cd_1 c, if_neg (by omega), if_pos rfl, h6 rfl]
      by_cases k : x = a + 1
      · subst k; simp
      · have : ¬ (1 + cnt f (x - 1) = 1 + cnt f a) := fun q => by have := cnt_inj (h3 c) hf (by omega); omega
        simp [k]
        omega
    · have d := cd_2div hv c
      have ne : cdD n f 2 x y ≠ 0 := by rw [cd_2 c]; omega
      rw [if_neg (by omega), if_neg (by decide), d.1, d.2]
      have e1 : (cnt f (x - 1) = cnt f a) ↔ x = a + 1 := ⟨fun q => by have := cnt_inj (h3 c) hf q; omega, fun q => by subst q; rfl⟩
      have e2 : (cnt f (x - 1) = cnt f a ∨ oyD f x y = cnt f a) ↔ (x = a + 1 ∨ y = a + 1) := by
        rw [e1]
        unfold oyD
        by_cases k : y = 0
        · rw [if_pos k, e1]
          constructor
          · rintro (q | q) <;> exact Or.inl q
          · rintro (q | q)
            · exact Or.inl q
            · omega
        · rw [if_neg k]
          have e3 : (cnt f (y - 1) = cnt f a) ↔ y = a + 1 := ⟨fun q => by have := cnt_inj (h4 k).1 hf q; omega, fun q => by subst q; rfl⟩
          rw [e3]
      rw [← Bool.decide_or, ← Bool.decide_or]
      exact decide_eq_decide.mpr e2
