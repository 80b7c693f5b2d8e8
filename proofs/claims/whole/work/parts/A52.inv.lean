/-! texts: signs, how many parts each has, sizes by depth, well-formed by depth -/
def pt (s : Int) : Nat := if s = 59 ∨ s = 63 then 2 else if 98 ≤ s ∧ s ≤ 100 then 1 else 0
def isLf (s : Int) : Bool := s == 45 || (decide (48 ≤ s) && decide (s ≤ 55))
def zs (sg : Nat → Int) : Nat → Nat → Nat
  | 0 => fun _ => 1
  | d + 1 => fun i => if pt (sg i) = 2 then 1 + zs sg d (i + 1) + zs sg d (i + 1 + zs sg d (i + 1)) else if pt (sg i) = 1 then 1 + zs sg d (i + 1) else 1
def wf (sg : Nat → Int) : Nat → Nat → Bool
  | 0 => fun i => isLf (sg i)
  | d + 1 => fun i => isLf (sg i) || (pt (sg i) == 1 && wf sg d (i + 1)) || (pt (sg i) == 2 && wf sg d (i + 1) && wf sg d (i + 1 + zs sg d (i + 1)))
/-- a text of cn signs that stands -/
def TX (cn : Nat) (sg : Nat → Int) : Prop := cn ≤ 30 ∧ wf sg 4 0 = true ∧ zs sg 4 0 = cn
/-- the line of a sign, as a bit; of n signs from i on -/
def lb (s : Int) : Nat := if 48 ≤ s ∧ s ≤ 55 then 2 ^ (s - 48).toNat else 0
def lr (sg : Nat → Int) (i : Nat) : Nat → Nat
  | 0 => 0
  | n + 1 => lr sg i n ||| lb (sg (i + n))
/-! what an image keeps: settings, how many signs, signs, periods, how many digits, digits -/
abbrev jBd : Type := (Nat → Int) × (Nat → Nat) × (Nat → Nat → Int) × (Nat → Int) × Nat × (Nat → Int)
def mayH (s w h : Int) : Bool := f_X11_mayBeHeld jN s w h == some 1
def VS (st : Nat → Int) : Prop := (st 0 = 1 ∨ st 0 = 2 ∨ st 0 = 4) ∧ (st 1 = 1 ∨ st 1 = 2) ∧ (2 ≤ st 2 ∧ st 2 ≤ 20) ∧ (0 ≤ st 3 ∧ st 3 ≤ 255) ∧ mayH (st 0) (st 1) (st 3) = true
def VB (q : jBd) : Prop := VS q.1 ∧ (∀ p, p < 4 → TX (q.2.1 p) (q.2.2.1 p)) ∧ (∀ p, p < 4 → 0 ≤ q.2.2.2.1 p ∧ q.2.2.2.1 p ≤ 9999) ∧ q.2.2.2.2.1 ≤ 20 ∧ ∀ i, i < q.2.2.2.2.1 → 0 ≤ q.2.2.2.2.2 i ∧ q.2.2.2.2.2 i ≤ 9
/-- a text object of the class at t -/
def CT (m : jm_M) (t cn : Nat) (sg : Nat → Int) : Prop := m t 0 = (cn : Int) ∧ (∀ i, i < cn → m (t + 1) i = sg i) ∧ (∀ i, cn ≤ i → i < 30 → m (t + 1) i = 45) ∧ (∀ i, i < cn → m (t + 2) i = (zs sg 4 i : Int)) ∧ (∀ i, cn ≤ i → i < 30 → m (t + 2) i = 1) ∧ (∀ i, i < cn → m (t + 3) i = (lr sg i (zs sg 4 i) : Int)) ∧ ∀ i, cn ≤ i → i < 30 → m (t + 3) i = 0
/-- a board of the class at b -/
def CB (m : jm_M) (b : Nat) (q : jBd) : Prop := (∀ i, i < 4 → m (b + 1) i = q.1 i) ∧ (∀ p, p < 4 → CT m (b + 4 + 4 * p) (q.2.1 p) (q.2.2.1 p)) ∧ (∀ p, p < 4 → m (b + 2) p = q.2.2.2.1 p) ∧ m b 0 = (q.2.2.2.2.1 : Int) ∧ ∀ i, i < q.2.2.2.2.1 → m (b + 3) i = q.2.2.2.2.2 i
/-- the reference's own board, and its images -/
def MB (m : jm_M) (q : jBd) : Prop := (∀ i, i < 4 → m 2 i = q.1 i) ∧ (∀ p, p < 4 → m 4 p = (q.2.1 p : Int) ∧ ∀ i, i < q.2.1 p → m 5 (30 * p + i) = q.2.2.1 p i ∧ m 6 (30 * p + i) = (zs (q.2.2.1 p) 4 i : Int)) ∧ (∀ p, p < 4 → m 7 p = q.2.2.2.1 p) ∧ m 1 7 = (q.2.2.2.2.1 : Int) ∧ ∀ i, i < q.2.2.2.2.1 → m 8 i = q.2.2.2.2.2 i
def MI (m : jm_M) (n : Nat) (q : jBd) : Prop := (∀ i, i < 4 → m 23 (160 * n + i) = q.1 i) ∧ (∀ p, p < 4 → m 23 (160 * n + 4 + p) = (q.2.1 p : Int) ∧ ∀ i, i < q.2.1 p → m 23 (160 * n + 33 + (30 * p + i)) = q.2.2.1 p i) ∧ (∀ p, p < 4 → m 23 (160 * n + 8 + p) = q.2.2.2.1 p) ∧ m 23 (160 * n + 12) = (q.2.2.2.2.1 : Int) ∧ ∀ i, i < q.2.2.2.2.1 → m 23 (160 * n + 13 + i) = q.2.2.2.2.2 i
/-- the pad: how many signs, signs -/
def VP (n : Nat) (pg : Nat → Int) : Prop := n ≤ 30 ∧ ∀ i, i < n → 33 ≤ pg i ∧ pg i ≤ 126
/-- what both sides hold: board, pad, images (kept or not) -/
abbrev jAb : Type := jBd × (Nat × (Nat → Int)) × (Nat → Bool) × (Nat → jBd)
def VA (A : jAb) : Prop := VB A.1 ∧ VP A.2.1.1 A.2.1.2 ∧ ∀ n, n < 2 → A.2.2.1 n = true → VB (A.2.2.2 n)
/-- a row of shelves reached, at r: how many, which, with what; places by shelf -/
def RR (m : jm_M) (r : Nat) : Prop := ∃ n : Nat, n ≤ 625 ∧ m r 0 = (n : Int) ∧ (∀ i, i < n → 0 ≤ m (r + 1) i ∧ m (r + 1) i < 625 ∧ m (r + 3) (m (r + 1) i).toNat = (i : Int) + 1) ∧ ∀ s, s < 625 → m (r + 3) s ≠ 0 → ∃ i, i < n ∧ m (r + 3) s = (i : Int) + 1 ∧ m (r + 1) i = (s : Int)
def rrL : List Nat := [83, 87, 92, 96, 100, 104, 108]
/-- the class's side: rows up to 63, and the rows of shelves -/
def KC (m : jm_M) (A : jAb) : Prop := CB m 2 A.1 ∧ m 62 1 = (A.2.1.1 : Int) ∧ (∀ i, i < A.2.1.1 → m 63 i = A.2.1.2 i) ∧ ∀ n, n < 2 → m (22 + 20 * n) 1 = (if A.2.2.1 n = true then 1 else 0) ∧ (A.2.2.1 n = true → CB m (22 + 20 * n) (A.2.2.2 n))
def IC (m : jm_M) (A : jAb) : Prop := CF m ∧ (∀ r ∈ rrL, RR m r) ∧ KC m A
/-- the reference's side -/
def KM (m : jm_M) (A : jAb) : Prop := MB m A.1 ∧ m 1 1 = (A.2.1.1 : Int) ∧ (∀ i, i < A.2.1.1 → m 3 i = A.2.1.2 i) ∧ ∀ n, n < 2 → m 24 n = (if A.2.2.1 n = true then 1 else 0) ∧ (A.2.2.1 n = true → MI m n (A.2.2.2 n))
def IM (m : jm_M) (A : jAb) : Prop := MF m ∧ KM m A
def Inv (mC mM : jm_M) : Prop := ∃ A : jAb, VA A ∧ IC mC A ∧ IM mM A
/-! what leaves the persistent rows alone -/
theorem CT.same {m m' : jm_M} {t cn : Nat} {sg : Nat → Int} (h : CT m t cn sg) (hs : ∀ a, t ≤ a → a ≤ t + 3 → ∀ i, m' a i = m a i) : CT m' t cn sg := by
  obtain ⟨h1, h2, h3, h4, h5, h6, h7⟩ := h
  refine ⟨?_, fun i hi => ?_, fun i hi hj => ?_, fun i hi => ?_, fun i hi hj => ?_, fun i hi => ?_, fun i hi hj => ?_⟩
  · rw [hs t (by omega) (by omega)]; exact h1
  · rw [hs (t + 1) (by omega) (by omega)]; exact h2 i hi
  · rw [hs (t + 1) (by omega) (by omega)]; exact h3 i hi hj
  · rw [hs (t + 2) (by omega) (by omega)]; exact h4 i hi
  · rw [hs (t + 2) (by omega) (by omega)]; exact h5 i hi hj
  · rw [hs (t + 3) (by omega) (by omega)]; exact h6 i hi
  · rw [hs (t + 3) (by omega) (by omega)]; exact h7 i hi hj
theorem CB.same {m m' : jm_M} {b : Nat} {q : jBd} (h : CB m b q) (hs : ∀ a, b < a → a ≤ b + 19 → ∀ i, m' a i = m a i) (h0 : m' b 0 = m b 0) : CB m' b q := by
  obtain ⟨h1, h2, h3, h4, h5⟩ := h
  refine ⟨fun i hi => ?_, fun p hp => (h2 p hp).same (fun a ha hb => hs a (by omega) (by omega)), fun p hp => ?_, ?_, fun i hi => ?_⟩
  · rw [hs (b + 1) (by omega) (by omega)]; exact h1 i hi
  · rw [hs (b + 2) (by omega) (by omega)]; exact h3 p hp
  · rw [h0]; exact h4
  · rw [hs (b + 3) (by omega) (by omega)]; exact h5 i hi
theorem KC.same {m m' : jm_M} {A : jAb} (h : KC m A) (hs : ∀ a, a ≤ 63 → ∀ i, m' a i = m a i) : KC m' A := by
  obtain ⟨h1, h2, h3, h4⟩ := h
  refine ⟨h1.same (fun a _ ha => hs a (by omega)) (hs _ (by omega) _), by rw [hs _ (by omega)]; exact h2, fun i hi => by rw [hs _ (by omega)]; exact h3 i hi, fun n hn => ⟨by rw [hs _ (by omega)]; exact (h4 n hn).1, fun hk => ((h4 n hn).2 hk).same (fun a _ ha => hs a (by omega)) (hs _ (by omega) _)⟩⟩
theorem RR.same {m m' : jm_M} {r : Nat} (h : RR m r) (hs : ∀ a, r ≤ a → a ≤ r + 3 → ∀ i, m' a i = m a i) : RR m' r := by
  obtain ⟨n, h1, h2, h3, h4⟩ := h
  refine ⟨n, h1, by rw [hs r (by omega) (by omega)]; exact h2, fun i hi => ?_, fun s hs1 => ?_⟩
  · rw [hs (r + 1) (by omega) (by omega), hs (r + 3) (by omega) (by omega)]; exact h3 i hi
  · rw [hs (r + 3) (by omega) (by omega)]
    intro hne
    obtain ⟨i, a1, a2, a3⟩ := h4 s hs1 hne
    exact ⟨i, a1, a2, by rw [hs (r + 1) (by omega) (by omega)]; exact a3⟩
/-- the rows of the reference that stay: 2 to 8, 23, 24, and two numbers of its object -/
theorem KM.same {m m' : jm_M} {A : jAb} (h : KM m A) (hs : ∀ a, (2 ≤ a ∧ a ≤ 8) ∨ a = 23 ∨ a = 24 → ∀ i, m' a i = m a i) (h1 : m' 1 1 = m 1 1) (h7 : m' 1 7 = m 1 7) : KM m' A := by
  obtain ⟨⟨b1, b2, b3, b4, b5⟩, k2, k3, k4⟩ := h
  refine ⟨⟨fun i hi => ?_, fun p hp => ⟨?_, fun i hi => ⟨?_, ?_⟩⟩, fun p hp => ?_, ?_, fun i hi => ?_⟩, ?_, fun i hi => ?_, fun n hn => ⟨?_, fun hk => ?_⟩⟩
  · rw [hs 2 (by omega)]; exact b1 i hi
  · rw [hs 4 (by omega)]; exact (b2 p hp).1
  · rw [hs 5 (by omega)]; exact ((b2 p hp).2 i hi).1
  · rw [hs 6 (by omega)]; exact ((b2 p hp).2 i hi).2
  · rw [hs 7 (by omega)]; exact b3 p hp
  · rw [h7]; exact b4
  · rw [hs 8 (by omega)]; exact b5 i hi
  · rw [h1]; exact k2
  · rw [hs 3 (by omega)]; exact k3 i hi
  · rw [hs 24 (by omega)]; exact (k4 n hn).1
  · obtain ⟨c1, c2, c3, c4, c5⟩ := (k4 n hn).2 hk
    have e := hs 23 (by omega)
    exact ⟨fun i hi => by rw [e]; exact c1 i hi, fun p hp => ⟨by rw [e]; exact (c2 p hp).1, fun i hi => by rw [e]; exact (c2 p hp).2 i hi⟩, fun p hp => by rw [e]; exact c3 p hp, by rw [e]; exact c4, fun i hi => by rw [e]; exact c5 i hi⟩
