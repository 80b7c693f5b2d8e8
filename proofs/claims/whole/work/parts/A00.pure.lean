abbrev jm_M : Type := Nat → Nat → Int
abbrev jm_S : Type := Nat → Nat × Nat
def jm_up (m : jm_M) (a i : Nat) (v : Int) : jm_M := fun b j => if b = a ∧ j = i then v else m b j
def jw (x : Int) : Int := (Int32.ofInt x).toInt
def jIn (x : Int) : Prop := -2147483648 ≤ x ∧ x ≤ 2147483647
def jand (x y : Int) : Int := (Int32.ofInt x &&& Int32.ofInt y).toInt
def jor (x y : Int) : Int := (Int32.ofInt x ||| Int32.ofInt y).toInt
def jxor (x y : Int) : Int := (Int32.ofInt x ^^^ Int32.ofInt y).toInt
def jshl (x y : Int) : Int := (Int32.ofInt x <<< (Int32.ofInt y &&& 31)).toInt
def jshr (x y : Int) : Int := (Int32.ofInt x >>> (Int32.ofInt y &&& 31)).toInt
def jushr (x y : Int) : Int := ((Int32.ofInt x).toUInt32 >>> ((Int32.ofInt y).toUInt32 &&& Int32.toUInt32 31)).toInt32.toInt
def jdiv (x y : Int) : Int := jw (x.tdiv y)
def jrem (x y : Int) : Int := x.tmod y
def jrf (sh : jm_S) (m : jm_M) (a kd n k : Nat) : Option Int := if sh a = (kd, n) then some (m a k) else none
def jra (sh : jm_S) (m : jm_M) (a kd : Nat) (i : Int) : Option Int := if (sh a).1 = kd ∧ 0 ≤ i ∧ i < (sh a).2 then some (m a i.toNat) else none
def jwf (sh : jm_S) (m : jm_M) (a kd n k : Nat) (v : Int) : Option jm_M := if sh a = (kd, n) then some (jm_up m a k v) else none
def jwa (sh : jm_S) (m : jm_M) (a kd : Nat) (i v : Int) : Option jm_M := if (sh a).1 = kd ∧ 0 ≤ i ∧ i < (sh a).2 then some (jm_up m a i.toNat v) else none
def jlen (sh : jm_S) (a : Nat) : Option Int := if 13 ≤ (sh a).1 ∧ (sh a).1 ≤ 16 ∧ (sh a).2 ≤ 2147483647 then some (sh a).2 else none
def jzb (v : Int) : Option Int := if v = 0 ∨ v = 1 then some v else none
theorem jbind {α β : Type} {x : Option α} {f : α → Option β} {r : β} (h : Option.bind x f = some r) : ∃ v, x = some v ∧ f v = some r := by
  cases x with
  | none => cases h
  | some v => exact ⟨v, rfl, h⟩
theorem jIn_toInt (x : Int32) : jIn x.toInt := by
  have h1 := Int32.toInt_lt x
  have h2 := Int32.le_toInt x
  unfold jIn
  omega
theorem jIn_w (x : Int) : jIn (jw x) := jIn_toInt _
theorem jIn_and (x y : Int) : jIn (jand x y) := jIn_toInt _
theorem jIn_or (x y : Int) : jIn (jor x y) := jIn_toInt _
theorem jIn_xor (x y : Int) : jIn (jxor x y) := jIn_toInt _
theorem jIn_shl (x y : Int) : jIn (jshl x y) := jIn_toInt _
theorem jIn_shr (x y : Int) : jIn (jshr x y) := jIn_toInt _
theorem jIn_ushr (x y : Int) : jIn (jushr x y) := jIn_toInt _
theorem jIn_div (x y : Int) : jIn (jdiv x y) := jIn_toInt _
theorem jIn_rem {x : Int} (y : Int) (h : jIn x) : jIn (jrem x y) := by
  unfold jIn jrem at *
  have h1 := Int.natAbs_tmod x y
  have h2 : x.natAbs % y.natAbs ≤ x.natAbs := Nat.mod_le _ _
  rcases Int.le_total 0 x with h0 | h0
  · have h3 := Int.tmod_nonneg y h0
    omega
  · have h3 := Int.tmod_nonneg y (show 0 ≤ -x by omega)
    rw [Int.neg_tmod] at h3
    omega
theorem jw_of (x : Int) : Int32.ofInt (jw x) = Int32.ofInt x := Int32.ofInt_toInt _
theorem jt_of {x : Int} (h : jIn x) : (Int32.ofInt x).toInt = x := by
  unfold jIn at h
  exact Int32.toInt_ofInt_of_le (by omega) (by omega)
theorem jw_eq {x : Int} (h1 : -2147483648 ≤ x) (h2 : x ≤ 2147483647) : jw x = x := jt_of ⟨h1, h2⟩
theorem jlt_iff {x y : Int} (hx : jIn x) (hy : jIn y) : Int32.ofInt x < Int32.ofInt y ↔ x < y := by rw [Int32.lt_iff_toInt_lt, jt_of hx, jt_of hy]
theorem jeq_iff {x y : Int} (hx : jIn x) (hy : jIn y) : Int32.ofInt x = Int32.ofInt y ↔ x = y := by rw [← Int32.toInt_inj, jt_of hx, jt_of hy]
theorem jof_add (x y : Int) : Int32.ofInt x + Int32.ofInt y = Int32.ofInt (jw (x + y)) := by rw [jw_of, Int32.ofInt_add]
theorem jof_sub (x y : Int) : Int32.ofInt x - Int32.ofInt y = Int32.ofInt (jw (x - y)) := by rw [jw_of, Int32.ofInt_sub]
theorem jof_mul (x y : Int) : Int32.ofInt x * Int32.ofInt y = Int32.ofInt (jw (x * y)) := by rw [jw_of, Int32.ofInt_mul]
theorem jof_div {x y : Int} (hx : jIn x) (hy : jIn y) : Int32.ofInt x / Int32.ofInt y = Int32.ofInt (jdiv x y) := by
  apply Int32.toInt_inj.mp
  rw [Int32.toInt_div, jt_of hx, jt_of hy]
  show _ = (Int32.ofInt (jw _)).toInt
  rw [jw_of, Int32.toInt_ofInt]
theorem jof_rem2 {x y : Int} (hx : jIn x) (hy : jIn y) : Int32.ofInt x - Int32.ofInt x / Int32.ofInt y * Int32.ofInt y = Int32.ofInt (jrem x y) := by
  rw [jof_div hx hy]
  unfold jdiv jrem
  rw [jw_of, ← Int32.ofInt_mul, ← Int32.ofInt_sub, Int.tmod_def, Int.mul_comm]
theorem jle_iff {x y : Int} (hx : jIn x) (hy : jIn y) : Int32.ofInt x ≤ Int32.ofInt y ↔ x ≤ y := by rw [Int32.le_iff_toInt_le, jt_of hx, jt_of hy]
def jck (sh : jm_S) (a kd n : Nat) : Option Unit := if sh a = (kd, n) then some () else none
def jwr (sh : jm_S) (m : jm_M) (a kd n k r : Nat) : Option jm_M := if sh a = (kd, n) ∧ r ≤ 2147483647 then some (jm_up m a k (r : Int)) else none
abbrev jm_G : Type := Nat × jm_S × jm_M
def jgn (Lm : Nat) (g : jm_G) (kd n : Nat) : Option jm_G := if g.1 + 1 ≤ Lm ∧ n ≤ 4000 then some (g.1 + 1, (fun a => if a = g.1 + 1 then (kd, n) else g.2.1 a), g.2.2) else none
def jgna (Lm : Nat) (g : jm_G) (kd : Nat) (x : Int) : Option jm_G := if 0 ≤ x ∧ x ≤ 4000 then jgn Lm g kd x.toNat else none
def jgf (g : jm_G) (a kd n k : Nat) (v : Int) : Option jm_G := Option.bind (jwf g.2.1 g.2.2 a kd n k v) fun m => some (g.1, g.2.1, m)
def jgr (g : jm_G) (a kd n k r : Nat) : Option jm_G := Option.bind (jwr g.2.1 g.2.2 a kd n k r) fun m => some (g.1, g.2.1, m)
def jga (g : jm_G) (a kd : Nat) (i v : Int) : Option jm_G := Option.bind (jwa g.2.1 g.2.2 a kd i v) fun m => some (g.1, g.2.1, m)
def jg2 (Lm : Nat) (g : jm_G) (x y : Int) : Option jm_G := if 0 ≤ x ∧ 0 ≤ y ∧ x ≤ 60 ∧ y ≤ 4000 ∧ g.1 + 1 + x.toNat ≤ Lm then some (g.1 + 1 + x.toNat, (fun a => if a = g.1 + 1 then (16, x.toNat) else if g.1 + 1 < a ∧ a ≤ g.1 + 1 + x.toNat then (13, y.toNat) else g.2.1 a), (fun a i => if a = g.1 + 1 ∧ i < x.toNat then ((g.1 + 2 + i : Nat) : Int) else g.2.2 a i)) else none
def jgl (g2 g : jm_G) (cN Lm : Nat) : Option Unit := if g2.1 = g.1 + cN ∧ g.1 + cN ≤ Lm then some () else none
