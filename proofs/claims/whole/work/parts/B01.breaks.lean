/-! bits of sets of lines -/
theorem andn_nat {a h : Nat} (ha : a < 256) (hh : h < 256) : ∃ r : Nat, jand (a : Int) (jxor (h : Int) (-1)) = (r : Int) ∧ r < 256 ∧ ∀ l, hb r l = (hb a l && !hb h l) := by
  have e1 : (Int32.ofInt (jxor (h : Int) (-1))).toBitVec = BitVec.ofNat 32 h ^^^ BitVec.allOnes 32 := by
    unfold jxor
    rw [Int32.ofInt_toInt, Int32.toBitVec_xor, jbv]
    rfl
  have e2 : (Int32.ofInt (a : Int) &&& Int32.ofInt (jxor (h : Int) (-1))).toBitVec = BitVec.ofNat 32 a &&& (BitVec.ofNat 32 h ^^^ BitVec.allOnes 32) := by
    rw [Int32.toBitVec_and, jbv, e1]
  have hlt : (BitVec.ofNat 32 a &&& (BitVec.ofNat 32 h ^^^ BitVec.allOnes 32)).toNat < 256 := by
    rw [BitVec.toNat_and, BitVec.toNat_ofNat, Nat.mod_eq_of_lt (by omega)]
    exact Nat.lt_of_le_of_lt Nat.and_le_left ha
  refine ⟨(BitVec.ofNat 32 a &&& (BitVec.ofNat 32 h ^^^ BitVec.allOnes 32)).toNat, ?_, hlt, fun l => ?_⟩
  · unfold jand
    rw [← Int32.toInt_toBitVec, e2]
    exact jbv_toInt _ (by omega)
  · unfold hb
    rw [BitVec.toNat_and, Nat.testBit_and, BitVec.toNat_xor, Nat.testBit_xor, BitVec.toNat_ofNat, BitVec.toNat_ofNat, Nat.mod_eq_of_lt (show a < 2 ^ 32 by omega), Nat.mod_eq_of_lt (show h < 2 ^ 32 by omega), BitVec.toNat_allOnes, Nat.testBit_two_pow_sub_one]
    by_cases c : l < 32
    · rw [decide_eq_true c]
      cases h.testBit l <;> rfl
    · have : a.testBit l = false := by
        apply Nat.testBit_lt_two_pow
        have : 2 ^ 32 ≤ 2 ^ l := Nat.pow_le_pow_right (by decide) (by omega)
        omega
      rw [this]; rfl
theorem bitc : ∀ x : Fin 256, f_J6_bitCount_0f7a4 (x.val : Int) = some (cnt (fun l => hb x.val l) 8 : Int) := by decide +kernel
theorem msk_1 : ∀ s : Fin 1, (f_X11_linesOfSet (s.val : Int) 1).any (fun q => decide (0 ≤ q ∧ q < 256) && (List.range 8).all (fun l => hb q.toNat l == decide (l % 1 = s.val))) = true := by decide +kernel
theorem msk_2 : ∀ s : Fin 2, (f_X11_linesOfSet (s.val : Int) 2).any (fun q => decide (0 ≤ q ∧ q < 256) && (List.range 8).all (fun l => hb q.toNat l == decide (l % 2 = s.val))) = true := by decide +kernel
theorem msk_4 : ∀ s : Fin 4, (f_X11_linesOfSet (s.val : Int) 4).any (fun q => decide (0 ≤ q ∧ q < 256) && (List.range 8).all (fun l => hb q.toNat l == decide (l % 4 = s.val))) = true := by decide +kernel
theorem s_linesOfSet {S s : Nat} (hS : isS S) (hs : s < S) : ∃ q : Nat, f_X11_linesOfSet (s : Int) (S : Int) = some (q : Int) ∧ q < 256 ∧ ∀ l, l < 8 → hb q l = decide (l % S = s) := by
  have key : (f_X11_linesOfSet (s : Int) (S : Int)).any (fun q => decide (0 ≤ q ∧ q < 256) && (List.range 8).all (fun l => hb q.toNat l == decide (l % S = s))) = true := by
    rcases hS with rfl | rfl | rfl
    · exact msk_1 ⟨s, hs⟩
    · exact msk_2 ⟨s, hs⟩
    · exact msk_4 ⟨s, hs⟩
  cases e : f_X11_linesOfSet (s : Int) (S : Int) with
  | none => rw [e] at key; cases key
  | some v =>
    rw [e] at key
    simp only [Option.any_some, Bool.and_eq_true, decide_eq_true_eq] at key
    obtain ⟨⟨k1, k2⟩, k3⟩ := key
    refine ⟨v.toNat, by rw [Int.toNat_of_nonneg k1], by omega, fun l hl => ?_⟩
    have := List.all_eq_true.mp k3 l (List.mem_range.mpr hl)
    exact eq_of_beq this
/-- does a set of lines meet a set -/
def mts (S own s : Nat) : Bool := (List.range 8).any (fun k => hb own k && decide (k % S = s))
def brk (S own of : Nat) : Nat := cnt (fun l => hb of l && mts S own (l % S)) 8
theorem cnt_or {f g : Nat → Bool} (hd : ∀ i, ¬ (f i = true ∧ g i = true)) : ∀ n, cnt (fun i => f i || g i) n = cnt f n + cnt g n := by
  intro n
  induction n with
  | zero => rfl
  | succ n ih =>
    show cnt (fun i => f i || g i) n + (if (f n || g n) then 1 else 0) = (cnt f n + (if f n then 1 else 0)) + (cnt g n + (if g n then 1 else 0))
    rw [ih]
    have := hd n
    cases h1 : f n <;> cases h2 : g n
    · simp
    · simp; omega
    · simp; omega
    · exact absurd ⟨h1, h2⟩ this
/-- what lies in the first n sets -/
def brn (S own of n : Nat) : Nat := cnt (fun l => hb of l && mts S own (l % S) && decide (l % S < n)) 8
theorem brn_s (S own of n : Nat) : brn S own of (n + 1) = brn S own of n + (if mts S own n then cnt (fun l => hb of l && decide (l % S = n)) 8 else 0) := by
  unfold brn
  have e : cnt (fun l => hb of l && mts S own (l % S) && decide (l % S < n + 1)) 8 = cnt (fun l => (hb of l && mts S own (l % S) && decide (l % S < n)) || (hb of l && mts S own (l % S) && decide (l % S = n))) 8 := cnt_congr fun i _ => by
    have : decide (i % S < n + 1) = (decide (i % S < n) || decide (i % S = n)) := by
      rw [← Bool.decide_or]
      exact decide_eq_decide.mpr ⟨fun _ => by omega, fun _ => by omega⟩
    rw [this, Bool.and_or_distrib_left]
  rw [e, cnt_or (fun i ⟨a, b⟩ => by
    simp only [Bool.and_eq_true, decide_eq_true_eq] at a b
    omega)]
  congr 1
  by_cases c : mts S own n = true
  · rw [if_pos c]
    refine cnt_congr fun i _ => ?_
    by_cases d : i % S = n
    · rw [d, c]; simp
    · rw [decide_eq_false d]; simp
  · rw [if_neg c]
    refine cnt_none 8 fun i _ => ?_
    by_cases d : i % S = n
    · have : mts S own n = false := by simpa using c
      rw [d, this]; simp
    · rw [decide_eq_false d]; simp
theorem brn_S {S own of : Nat} (hS : isS S) : brn S own of S = brk S own of := by
  unfold brn brk
  refine cnt_congr fun i _ => ?_
  have : i % S < S := Nat.mod_lt _ (by have := hS.le; omega)
  rw [decide_eq_true this, Bool.and_true]
theorem brk_le (S own of : Nat) : brk S own of ≤ 8 := cnt_le _ 8
theorem zero_bits {x : Nat} (hx : x < 256) : x = 0 ↔ ∀ l, l < 8 → hb x l = false := by
  constructor
  · intro e l _; rw [e]; exact Nat.zero_testBit l
  · intro h
    refine Nat.eq_of_testBit_eq fun j => ?_
    rw [Nat.zero_testBit]
    by_cases c : j < 8
    · exact h j c
    · apply Nat.testBit_lt_two_pow
      have : 2 ^ 8 ≤ 2 ^ j := Nat.pow_le_pow_right (by decide) (by omega)
      omega
theorem s_breakL {N S own of ms : Nat} {m : jm_M} (hN : 20 ≤ N) (hS : isS S) (ho : own < 256) (hf : of < 256) (hms : ms ≤ 20) : f_X9_breakCost_l64 N shC N (ms : Int) (S : Int) (own : Int) (of : Int) 0 0 m = some ((brk S own of * ms : Nat) : Int) := by
  have hle := hS.le
  have key : ∀ (r s n : Nat), s + r = S → r < n → f_X9_breakCost_l64 N shC n (ms : Int) (S : Int) (own : Int) (of : Int) (brn S own of s : Int) (s : Int) m = some ((brk S own of * ms : Nat) : Int) := by
    intro r
    induction r with
    | zero =>
      intro s n hs hn
      obtain ⟨n, rfl⟩ : ∃ n', n = n' + 1 := ⟨n - 1, by omega⟩
      show f_X9_breakCost_b64 N shC (fun x3 x4 x5 x6 x7 x8 => f_X9_breakCost_l64 N shC n x3 x4 x5 x6 x7 x8 m) (ms : Int) (S : Int) (own : Int) (of : Int) (brn S own of s : Int) (s : Int) m = _
      have h1 := brk_le S own of
      have h2 : brk S own of * ms ≤ 8 * 20 := Nat.mul_le_mul h1 hms
      unfold f_X9_breakCost_b64
      rw [if_neg (by omega), show s = S by omega, brn_S hS, show (brk S own of : Int) * (ms : Int) = ((brk S own of * ms : Nat) : Int) by omega, jw_nat (by omega)]
    | succ r ih =>
      intro s n hs hn
      obtain ⟨n, rfl⟩ : ∃ n', n = n' + 1 := ⟨n - 1, by omega⟩
      show f_X9_breakCost_b64 N shC (fun x3 x4 x5 x6 x7 x8 => f_X9_breakCost_l64 N shC n x3 x4 x5 x6 x7 x8 m) (ms : Int) (S : Int) (own : Int) (of : Int) (brn S own of s : Int) (s : Int) m = _
      obtain ⟨q, q1, q2, q3⟩ := s_linesOfSet hS (show s < S by omega)
      have hbn : brn S own of s ≤ 8 := cnt_le _ 8
      have hoq : own &&& q < 256 := Nat.lt_of_le_of_lt Nat.and_le_left ho
      have hfq : of &&& q < 256 := Nat.lt_of_le_of_lt Nat.and_le_left hf
      have ih' := ih (s + 1) n (by omega) (by omega)
      rw [brn_s] at ih'
      unfold f_X9_breakCost_b64 f_X9_breakCost_b102
      rw [if_pos (by omega), q1, Option.bind_some, jand_nat (by omega) (by omega), jw_succ (by omega)]
      have hz : (own &&& q = 0) ↔ mts S own s = false := by
        rw [zero_bits hoq]
        constructor
        · intro hh
          unfold mts
          rw [List.any_eq_false]
          intro k hk
          have hk8 := List.mem_range.mp hk
          have := hh k hk8
          unfold hb at this
          rw [Nat.testBit_and] at this
          have e : q.testBit k = decide (k % S = s) := q3 k hk8
          rw [e] at this
          unfold hb
          rw [this]; decide
        · intro hh l hl
          unfold mts at hh
          rw [List.any_eq_false] at hh
          have := hh l (List.mem_range.mpr hl)
          unfold hb
          rw [Nat.testBit_and]
          have e : q.testBit l = decide (l % S = s) := q3 l hl
          rw [e]
          unfold hb at this
          simpa using this
      by_cases c : own &&& q = 0
      · have hm := hz.mp c
        rw [if_pos (by omega), jw_eq (by omega) (by omega), show (brn S own of s : Int) + 0 = ((brn S own of s + 0 : Nat) : Int) by omega]
        rw [hm] at ih'
        exact ih'
      · have hm : mts S own s = true := by
          cases e : mts S own s with
          | true => rfl
          | false => exact absurd (hz.mpr e) c
        rw [if_neg (by omega), jand_nat (by omega) (by omega), (show f_J6_bitCount_0f7a4 ((of &&& q : Nat) : Int) = some (cnt (fun l => hb (of &&& q) l) 8 : Int) from bitc ⟨of &&& q, hfq⟩), Option.bind_some]
        have e : cnt (fun l => hb (of &&& q) l) 8 = cnt (fun l => hb of l && decide (l % S = s)) 8 := cnt_congr fun i hi => by
          unfold hb
          rw [Nat.testBit_and]
          have e : q.testBit i = decide (i % S = s) := q3 i hi
          rw [e]
        rw [hm, if_pos rfl] at ih'
        have hcl : cnt (fun l => hb of l && decide (l % S = s)) 8 ≤ 8 := cnt_le _ 8
        rw [e, jw_eq (by omega) (by omega), show (brn S own of s : Int) + (cnt (fun l => hb of l && decide (l % S = s)) 8 : Int) = ((brn S own of s + cnt (fun l => hb of l && decide (l % S = s)) 8 : Nat) : Int) by omega]
        exact ih'
  have h0 : brn S own of 0 = 0 := cnt_none 8 fun i _ => by simp
  have := key S 0 N (by omega) (by omega)
  rw [h0] at this
  exact this
theorem sM_breakL {N S w h own of ms : Nat} {m : jm_M} (hN : 20 ≤ N) (hF : MF m) (hs : SMm m S w h) (h2 : m 2 2 = (ms : Int)) (hS : isS S) (ho : own < 256) (hf : of < 256) (hms : ms ≤ 20) : f_X12_breaksOf_l37 N shM N 1 (own : Int) (of : Int) 0 0 m = some ((brk S own of * ms : Nat) : Int) := by
  have hle := hS.le
  -- does a line's set meet the own lines
  have inner : ∀ (k37 : Nat → Int → Int → Int → Int → Option Int) (l : Nat) (x5 : Int), l < 8 → ∀ (r k n : Nat), k + r = 8 → r < n → f_X12_breaksOf_l50 N shM k37 n 1 (own : Int) (of : Int) x5 (l : Int) (if (List.range k).any (fun k => hb own k && decide (k % S = l % S)) then 1 else 0) (k : Int) m = (if hb of l then (if mts S own (l % S) then k37 1 (own : Int) (of : Int) (jw (x5 + 1)) ((l + 1 : Nat) : Int) else k37 1 (own : Int) (of : Int) (jw (x5 + 0)) ((l + 1 : Nat) : Int)) else k37 1 (own : Int) (of : Int) (jw (x5 + 0)) ((l + 1 : Nat) : Int)) := by
    intro k37 l x5 hl r
    induction r with
    | zero =>
      intro k n hk hn
      obtain ⟨n, rfl⟩ : ∃ n', n = n' + 1 := ⟨n - 1, by omega⟩
      have ek : k = 8 := by omega
      subst ek
      show f_X12_breaksOf_b50 N shM k37 (fun a0 x3 x4 x5 x6 x7 x8 => f_X12_breaksOf_l50 N shM k37 n a0 x3 x4 x5 x6 x7 x8 m) 1 (own : Int) (of : Int) x5 (l : Int) (if mts S own (l % S) then 1 else 0) ((8 : Nat) : Int) m = _
      unfold f_X12_breaksOf_b50 f_X12_breaksOf_b122 f_X12_breaksOf_b123
      rw [if_neg (by omega), jbit hf hl, jw_succ (by omega)]
      cases hb of l with
      | true =>
        rw [if_pos (show (if true = true then (1 : Int) else 0) = 1 from rfl), ifb, if_pos rfl]
      | false =>
        rw [if_neg (show ¬ (if false = true then (1 : Int) else 0) = 1 by decide), if_neg (by decide)]
    | succ r ih =>
      intro k n hk hn
      obtain ⟨n, rfl⟩ : ∃ n', n = n' + 1 := ⟨n - 1, by omega⟩
      have ih' := ih (k + 1) n (by omega) (by omega)
      have er : (List.range (k + 1)).any (fun k => hb own k && decide (k % S = l % S)) = ((List.range k).any (fun k => hb own k && decide (k % S = l % S)) || (hb own k && decide (k % S = l % S))) := by
        rw [List.range_succ, List.any_append, List.any_cons, List.any_nil, Bool.or_false]
      rw [er] at ih'
      show f_X12_breaksOf_b50 N shM k37 (fun a0 x3 x4 x5 x6 x7 x8 => f_X12_breaksOf_l50 N shM k37 n a0 x3 x4 x5 x6 x7 x8 m) 1 (own : Int) (of : Int) x5 (l : Int) _ (k : Int) m = _
      unfold f_X12_breaksOf_b50 f_X12_breaksOf_b87 f_X12_breaksOf_b91 f_X12_breaksOf_b92
      rw [if_pos (by omega), ifb, jw_succ (by omega)]
      cases e1 : (List.range k).any (fun k => hb own k && decide (k % S = l % S)) with
      | true =>
        rw [e1] at ih'
        rw [if_pos rfl]
        exact ih'
      | false =>
        rw [e1] at ih'
        rw [if_neg (by decide), jbit ho (by omega)]
        cases e2 : hb own k with
        | true =>
          rw [e2] at ih'
          rw [if_pos (show (if true = true then (1 : Int) else 0) = 1 from rfl), jck_ok sM1, Option.bind_some, sM_setOf hF hs hS, Option.bind_some, Option.bind_some, sM_setOf hF hs hS, Option.bind_some]
          by_cases e3 : k % S = l % S
          · rw [decide_eq_true e3] at ih'
            rw [if_pos (by omega)]
            exact ih'
          · rw [decide_eq_false e3] at ih'
            rw [if_neg (by omega)]
            exact ih'
        | false =>
          rw [e2] at ih'
          rw [if_neg (show ¬ (if false = true then (1 : Int) else 0) = 1 by decide)]
          exact ih'
  have key : ∀ (r l n : Nat), l + r = 8 → r < n → f_X12_breaksOf_l37 N shM n 1 (own : Int) (of : Int) (cnt (fun l => hb of l && mts S own (l % S)) l : Int) (l : Int) m = some ((brk S own of * ms : Nat) : Int) := by
    intro r
    induction r with
    | zero =>
      intro l n hl hn
      obtain ⟨n, rfl⟩ : ∃ n', n = n' + 1 := ⟨n - 1, by omega⟩
      have el : l = 8 := by omega
      subst el
      have h1 := brk_le S own of
      have h3 : brk S own of * ms ≤ 8 * 20 := Nat.mul_le_mul h1 hms
      show f_X12_breaksOf_b37 N shM (fun a0 x3 x4 x5 x6 => f_X12_breaksOf_l37 N shM n a0 x3 x4 x5 x6 m) 1 (own : Int) (of : Int) (brk S own of : Int) ((8 : Nat) : Int) m = _
      unfold f_X12_breaksOf_b37
      rw [if_neg (by omega), jrf_ok sM1, Option.bind_some, hF.t0, jra_ok sM2 (by decide) (by decide), Option.bind_some, show (2 : Int).toNat = 2 from rfl, h2, show (brk S own of : Int) * (ms : Int) = ((brk S own of * ms : Nat) : Int) by omega, jw_nat (by omega)]
    | succ r ih =>
      intro l n hl hn
      obtain ⟨n, rfl⟩ : ∃ n', n = n' + 1 := ⟨n - 1, by omega⟩
      have ih' := ih (l + 1) n (by omega) (by omega)
      have hcl := cnt_le (fun l => hb of l && mts S own (l % S)) l
      have ec : cnt (fun l => hb of l && mts S own (l % S)) (l + 1) = cnt (fun l => hb of l && mts S own (l % S)) l + (if (hb of l && mts S own (l % S)) then 1 else 0) := rfl
      show f_X12_breaksOf_b37 N shM (fun a0 x3 x4 x5 x6 => f_X12_breaksOf_l37 N shM n a0 x3 x4 x5 x6 m) 1 (own : Int) (of : Int) _ (l : Int) m = _
      unfold f_X12_breaksOf_b37
      rw [if_pos (by omega)]
      have hi := inner (fun a0 x3 x4 x5 x6 => f_X12_breaksOf_l37 N shM n a0 x3 x4 x5 x6 m) l (cnt (fun l => hb of l && mts S own (l % S)) l : Int) (by omega) 8 0 N (by omega) (by omega)
      have hi0 : (if (List.range 0).any (fun k => hb own k && decide (k % S = l % S)) then (1 : Int) else 0) = 0 := rfl
      rw [hi0] at hi
      refine hi.trans ?_
      rw [ec] at ih'
      cases e1 : hb of l with
      | true =>
        cases e2 : mts S own (l % S) with
        | true =>
          rw [e1, e2] at ih'
          rw [if_pos rfl, if_pos rfl, jw_succ (by omega)]
          exact ih'
        | false =>
          rw [e1, e2] at ih'
          rw [if_pos rfl, if_neg (by decide), jw_eq (by omega) (by omega), Int.add_zero]
          exact ih'
      | false =>
        rw [e1] at ih'
        rw [if_neg (by decide), jw_eq (by omega) (by omega), Int.add_zero]
        exact ih'
  exact key 8 0 N (by omega) (by omega)
