/-! a run by told choices: shelf, cost, fetches, missed, taken -/
abbrev RS : Type := Nat × Nat × Nat × Nat × Nat
def lnO (s : Int) : Nat := (s - 48).toNat
def exL (S w h ms : Nat) (s : Int) (q : RS) : RS := if 48 ≤ s ∧ s ≤ 55 then (fK S w h q.1 (lnO s), q.2.1 + (if tK S h q.1 (lnO s) then 1 else ms), q.2.2.1 + 1, q.2.2.2.1 + (if tK S h q.1 (lnO s) then 0 else 1), q.2.2.2.2) else q
def itr (f : RS → RS) : Nat → RS → RS
  | 0 => fun q => q
  | n + 1 => fun q => f (itr f n q)
def tkd (q : RS) : RS := (q.1, q.2.1, q.2.2.1, q.2.2.2.1, q.2.2.2.2 + 1)
def tmO (s : Int) : Nat := (s - 98).toNat + 2
def ex (S w h ms : Nat) (dg : Nat → Nat) (sg : Nat → Int) : Nat → Nat → RS → RS
  | 0 => fun i q => exL S w h ms (sg i) q
  | d + 1 => fun i q => if sg i = 59 then ex S w h ms dg sg d (nx sg i) (ex S w h ms dg sg d (i + 1) q) else if sg i = 63 then (if dg q.2.2.2.2 % 2 = 0 then ex S w h ms dg sg d (i + 1) (tkd q) else ex S w h ms dg sg d (nx sg i) (tkd q)) else if 98 ≤ sg i ∧ sg i ≤ 100 then itr (ex S w h ms dg sg d (i + 1)) (dg q.2.2.2.2 % (tmO (sg i) + 1)) (tkd q) else exL S w h ms (sg i) q
theorem ex_leaf {S w h ms : Nat} {dg : Nat → Nat} {sg : Nat → Int} {d i : Nat} {q : RS} (hl : isLf (sg i) = true) : ex S w h ms dg sg d i q = exL S w h ms (sg i) q := by
  cases d with
  | zero => rfl
  | succ d =>
    rw [isLf_iff] at hl
    show (if sg i = 59 then _ else _) = _
    rw [if_neg (by omega), if_neg (by omega), if_neg (by omega)]
theorem ex_seq {S w h ms : Nat} {dg : Nat → Nat} {sg : Nat → Int} {d i : Nat} {q : RS} (hs : sg i = 59) : ex S w h ms dg sg (d + 1) i q = ex S w h ms dg sg d (nx sg i) (ex S w h ms dg sg d (i + 1) q) := by
  show (if sg i = 59 then _ else _) = _
  rw [if_pos hs]
theorem ex_cho {S w h ms : Nat} {dg : Nat → Nat} {sg : Nat → Int} {d i : Nat} {q : RS} (hs : sg i = 63) : ex S w h ms dg sg (d + 1) i q = (if dg q.2.2.2.2 % 2 = 0 then ex S w h ms dg sg d (i + 1) (tkd q) else ex S w h ms dg sg d (nx sg i) (tkd q)) := by
  show (if sg i = 59 then _ else if sg i = 63 then _ else _) = _
  rw [if_neg (by omega), if_pos hs]
theorem ex_loop {S w h ms : Nat} {dg : Nat → Nat} {sg : Nat → Int} {d i : Nat} {q : RS} (hs : 98 ≤ sg i ∧ sg i ≤ 100) : ex S w h ms dg sg (d + 1) i q = itr (ex S w h ms dg sg d (i + 1)) (dg q.2.2.2.2 % (tmO (sg i) + 1)) (tkd q) := by
  show (if sg i = 59 then _ else if sg i = 63 then _ else if 98 ≤ sg i ∧ sg i ≤ 100 then _ else _) = _
  rw [if_neg (by omega), if_neg (by omega), if_pos hs]
/-- what a text adds at most -/
def leq (d ms : Nat) (q q' : RS) : Prop := q'.2.1 ≤ q.2.1 + (ms + 1) * 4 ^ d ∧ q'.2.2.1 ≤ q.2.2.1 + 4 ^ d ∧ q'.2.2.2.1 ≤ q.2.2.2.1 + 4 ^ d ∧ q'.2.2.2.2 + 1 ≤ q.2.2.2.2 + 5 ^ d
def BD (d ms : Nat) (q : RS) : Prop := q.2.1 + (ms + 1) * 4 ^ d ≤ 100000 ∧ q.2.2.1 + 4 ^ d ≤ 100000 ∧ q.2.2.2.1 + 4 ^ d ≤ 100000 ∧ q.2.2.2.2 + 5 ^ d ≤ 100000
theorem exL_leq {S w h ms : Nat} {s : Int} {q : RS} (d : Nat) : leq d ms q (exL S w h ms s q) := by
  have h1 : 1 ≤ 4 ^ d := Nat.pow_pos (by decide)
  have h2 : 1 ≤ 5 ^ d := Nat.pow_pos (by decide)
  have h3 : (ms + 1) * 1 ≤ (ms + 1) * 4 ^ d := Nat.mul_le_mul_left _ h1
  unfold exL leq
  split
  · refine ⟨?_, ?_, ?_, ?_⟩
    · show q.2.1 + _ ≤ _; split <;> omega
    · show q.2.2.1 + 1 ≤ _; omega
    · show q.2.2.2.1 + _ ≤ _; split <;> omega
    · show q.2.2.2.2 + 1 ≤ _; omega
  · exact ⟨by omega, by omega, by omega, by omega⟩
theorem itr_leq {d ms : Nat} {f : RS → RS} (hf : ∀ q, leq d ms q (f q)) : ∀ n q, (itr f n q).2.1 ≤ q.2.1 + n * ((ms + 1) * 4 ^ d) ∧ (itr f n q).2.2.1 ≤ q.2.2.1 + n * 4 ^ d ∧ (itr f n q).2.2.2.1 ≤ q.2.2.2.1 + n * 4 ^ d ∧ (itr f n q).2.2.2.2 + n ≤ q.2.2.2.2 + n * 5 ^ d := by
  intro n
  induction n with
  | zero => intro q; exact ⟨by show q.2.1 ≤ _; omega, by show q.2.2.1 ≤ _; omega, by show q.2.2.2.1 ≤ _; omega, by show q.2.2.2.2 + 0 ≤ _; omega⟩
  | succ n ih =>
    intro q
    obtain ⟨a1, a2, a3, a4⟩ := ih q
    obtain ⟨b1, b2, b3, b4⟩ := hf (itr f n q)
    have s1 := Nat.succ_mul n ((ms + 1) * 4 ^ d)
    have s2 := Nat.succ_mul n (4 ^ d)
    have s3 := Nat.succ_mul n (5 ^ d)
    rw [Nat.succ_eq_add_one] at s1 s2 s3
    rw [s1, s2, s3]
    exact ⟨by show (f _).2.1 ≤ _; omega, by show (f _).2.2.1 ≤ _; omega, by show (f _).2.2.2.1 ≤ _; omega, by show (f _).2.2.2.2 + (n + 1) ≤ _; omega⟩
theorem ex_leq {S w h ms : Nat} {dg : Nat → Nat} {sg : Nat → Int} : ∀ (d i : Nat) (q : RS), leq d ms q (ex S w h ms dg sg d i q) := by
  intro d
  induction d with
  | zero => intro i q; exact exL_leq 0
  | succ d ih =>
    intro i q
    have p1 : 1 ≤ 4 ^ d := Nat.pow_pos (by decide)
    have p2 : 1 ≤ 5 ^ d := Nat.pow_pos (by decide)
    have e1 : 4 ^ (d + 1) = 4 * 4 ^ d := by rw [Nat.pow_succ, Nat.mul_comm]
    have e2 : 5 ^ (d + 1) = 5 * 5 ^ d := by rw [Nat.pow_succ, Nat.mul_comm]
    have e3 : (ms + 1) * 4 ^ (d + 1) = 4 * ((ms + 1) * 4 ^ d) := by rw [e1, Nat.mul_left_comm]
    by_cases c1 : sg i = 59
    · rw [ex_seq c1]
      obtain ⟨a1, a2, a3, a4⟩ := ih (i + 1) q
      obtain ⟨b1, b2, b3, b4⟩ := ih (nx sg i) (ex S w h ms dg sg d (i + 1) q)
      unfold leq
      rw [e1, e2, ← e1, e3, e1]
      exact ⟨by omega, by omega, by omega, by omega⟩
    · by_cases c2 : sg i = 63
      · rw [ex_cho c2]
        have h0 : ∀ j, leq (d + 1) ms q (ex S w h ms dg sg d j (tkd q)) := fun j => by
          obtain ⟨a1, a2, a3, a4⟩ := ih j (tkd q)
          have t1 : (tkd q).2.1 = q.2.1 := rfl
          have t2 : (tkd q).2.2.1 = q.2.2.1 := rfl
          have t3 : (tkd q).2.2.2.1 = q.2.2.2.1 := rfl
          have t4 : (tkd q).2.2.2.2 = q.2.2.2.2 + 1 := rfl
          unfold leq
          rw [e1, e2, ← e1, e3, e1]
          exact ⟨by omega, by omega, by omega, by omega⟩
        split
        · exact h0 _
        · exact h0 _
      · by_cases c3 : 98 ≤ sg i ∧ sg i ≤ 100
        · rw [ex_loop c3]
          have hn : dg q.2.2.2.2 % (tmO (sg i) + 1) ≤ 4 := by
            have := Nat.mod_lt (dg q.2.2.2.2) (show 0 < tmO (sg i) + 1 by omega)
            unfold tmO at *
            omega
          generalize dg q.2.2.2.2 % (tmO (sg i) + 1) = n at hn
          obtain ⟨a1, a2, a3, a4⟩ := itr_leq (f := ex S w h ms dg sg d (i + 1)) (fun q => ih (i + 1) q) n (tkd q)
          have t1 : (tkd q).2.1 = q.2.1 := rfl
          have t2 : (tkd q).2.2.1 = q.2.2.1 := rfl
          have t3 : (tkd q).2.2.2.1 = q.2.2.2.1 := rfl
          have t4 : (tkd q).2.2.2.2 = q.2.2.2.2 + 1 := rfl
          have n1 : n * ((ms + 1) * 4 ^ d) ≤ 4 * ((ms + 1) * 4 ^ d) := Nat.mul_le_mul_right _ hn
          have n2 : n * 4 ^ d ≤ 4 * 4 ^ d := Nat.mul_le_mul_right _ hn
          have n3 : n * 5 ^ d ≤ 4 * 5 ^ d := Nat.mul_le_mul_right _ hn
          have n4 : n * 5 ^ d = 0 ∨ 1 ≤ n := by
            by_cases z : n = 0
            · exact Or.inl (by rw [z, Nat.zero_mul])
            · exact Or.inr (by omega)
          unfold leq
          rw [e1, e2, ← e1, e3, e1]
          exact ⟨by omega, by omega, by omega, by omega⟩
        · have : ex S w h ms dg sg (d + 1) i q = exL S w h ms (sg i) q := by
            show (if sg i = 59 then _ else if sg i = 63 then _ else if 98 ≤ sg i ∧ sg i ≤ 100 then _ else _) = _
            rw [if_neg c1, if_neg c2, if_neg c3]
          rw [this]
          exact exL_leq _
/-! reading a text of the class -/
theorem s_sg {m : jm_M} (hF : CF m) {t cn : Nat} {sg : Nat → Int} (ht : t ∈ tL) (hC : CT m t cn sg) (hcn : cn ≤ 30) {i : Nat} (hi : i < cn) : f_X10_signAt shC t (i : Int) m = some (sg i) := by
  rw [s_signAt hF ht, if_pos (by omega), Int.toNat_natCast, hC.2.1 i hi]
theorem s_second {m : jm_M} (hF : CF m) {t cn : Nat} {sg : Nat → Int} (ht : t ∈ tL) (hT : TX cn sg) (hC : CT m t cn sg) {i : Nat} (hi : i < cn) : ∃ v : Nat, f_X10_secondPart shC t (i : Int) m = some (v : Int) ∧ (i + 1 < cn → v = nx sg i) := by
  have hcn := hT.1
  have hz : f_X10_sizeAt shC t ((i + 1 : Nat) : Int) m = some ((if i + 1 < cn then zs sg 4 (i + 1) else 1 : Nat) : Int) := by
    rw [s_sizeAt hF ht]
    by_cases c : i + 1 < cn
    · rw [if_pos (by omega), if_pos c, Int.toNat_natCast, hC.2.2.2.1 _ c]
    · rw [if_neg c]
      by_cases c2 : i + 1 < 30
      · rw [if_pos (by omega), Int.toNat_natCast, hC.2.2.2.2.1 _ (by omega) c2]; rfl
      · rw [if_neg (by omega)]; rfl
  refine ⟨i + 1 + (if i + 1 < cn then zs sg 4 (i + 1) else 1), ?_, fun c => by rw [if_pos c]; rfl⟩
  have hle : (if i + 1 < cn then zs sg 4 (i + 1) else 1) ≤ 30 := by
    split
    · rename_i c; have := (hT.node c).2; omega
    · omega
  unfold f_X10_secondPart
  rw [jck_ok (tC hF t ht).1, Option.bind_some, jw_succ (by omega), hz, Option.bind_some, jw_eq (by omega) (by omega)]
  rfl
theorem s_first {i t : Nat} (hi : i < 30) : f_X10_firstPart t (i : Int) = some ((i + 1 : Nat) : Int) := by
  unfold f_X10_firstPart
  rw [jw_succ (by omega)]
theorem s_times {m : jm_M} (hF : CF m) {t cn : Nat} {sg : Nat → Int} (ht : t ∈ tL) (hC : CT m t cn sg) (hcn : cn ≤ 30) {i : Nat} (hi : i < cn) (hs : 98 ≤ sg i ∧ sg i ≤ 100) : f_X10_timesAt shC t (i : Int) m = some (tmO (sg i) : Int) := by
  unfold f_X10_timesAt
  rw [jck_ok (tC hF t ht).1, Option.bind_some, s_sg hF ht hC hcn hi, Option.bind_some, if_neg (by omega), if_neg (by omega), jw_eq (x := sg i - 98) (by omega) (by omega), jw_eq (by omega) (by omega)]
  congr 1
  unfold tmO
  omega
theorem s_isFetch {m : jm_M} (hF : CF m) {t cn : Nat} {sg : Nat → Int} (ht : t ∈ tL) (hC : CT m t cn sg) (hcn : cn ≤ 30) {i : Nat} (hi : i < cn) : f_X10_isFetchAt shC t (i : Int) m = some (if 48 ≤ sg i ∧ sg i ≤ 55 then 1 else 0) := by
  unfold f_X10_isFetchAt
  rw [jck_ok (tC hF t ht).1, Option.bind_some, s_sg hF ht hC hcn hi, Option.bind_some, s_isLine, Option.bind_some]
  split <;> rfl
theorem s_line {m : jm_M} (hF : CF m) {t cn : Nat} {sg : Nat → Int} (ht : t ∈ tL) (hC : CT m t cn sg) (hcn : cn ≤ 30) {i : Nat} (hi : i < cn) (hs : 48 ≤ sg i ∧ sg i ≤ 55) : f_X10_lineAt shC t (i : Int) m = some (lnO (sg i) : Int) := by
  have e := hC.2.1 i hi
  rw [s_lineAt hF ht (show i < 30 by omega) (by rw [e]; exact hs), e]
  congr 1
  unfold lnO
  omega
theorem lr_bit {sg : Nat → Int} : ∀ (n i : Nat), i < n → 48 ≤ sg i ∧ sg i ≤ 55 → hb (lr sg 0 n) (lnO (sg i)) = true := by
  intro n
  induction n with
  | zero => intro i h; omega
  | succ n ih =>
    intro i hi hs
    show (lr sg 0 n ||| lb (sg (0 + n))).testBit _ = true
    rw [Nat.testBit_or]
    by_cases c : i = n
    · subst c
      have : lb (sg (0 + i)) = 2 ^ (lnO (sg i)) := by
        rw [Nat.zero_add]
        unfold lb lnO
        rw [if_pos hs]
      rw [this, Nat.testBit_two_pow_self, Bool.or_true]
    · have : (lr sg 0 n).testBit (lnO (sg i)) = true := ih i (by omega) hs
      rw [this, Bool.true_or]
theorem ln_lt {s : Int} (hs : 48 ≤ s ∧ s ≤ 55) : lnO s < 8 := by unfold lnO; omega
