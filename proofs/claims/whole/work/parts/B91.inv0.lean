/-! the start -/
def stS0 : Nat → Int := fun i => if i = 2 then 10 else if i = 3 then 0 else 2
def bd0 : jBd := (stS0, fun _ => 1, fun _ _ => 45, fun _ => 0, 0, fun _ => 0)
def ab0 : jAb := (bd0, (0, fun _ => 0), fun _ => false, fun _ => bd0)
theorem z0_C : ∀ i : Fin 4, mC0 3 i.val = stS0 i.val ∧ mC0 4 i.val = 0 ∧ mC0 (6 + 4 * i.val) 0 = 1 := by decide +kernel
theorem z1_C : ∀ p : Fin 4, ∀ i : Fin 30, mC0 (7 + 4 * p.val) i.val = 45 ∧ mC0 (8 + 4 * p.val) i.val = 1 ∧ mC0 (9 + 4 * p.val) i.val = 0 := by decide +kernel
theorem z2_C : mC0 2 0 = 0 ∧ mC0 62 1 = 0 ∧ mC0 22 1 = 0 ∧ mC0 42 1 = 0 := by decide +kernel
theorem z3_C : ∀ r ∈ rrL, mC0 r 0 = 0 := by decide +kernel
theorem z0_M : ∀ i : Fin 4, mM0 2 i.val = stS0 i.val ∧ mM0 7 i.val = 0 ∧ mM0 4 i.val = 1 ∧ mM0 5 (30 * i.val) = 45 ∧ mM0 6 (30 * i.val) = 1 := by decide +kernel
theorem z1_M : mM0 1 1 = 0 ∧ mM0 1 7 = 0 ∧ mM0 24 0 = 0 ∧ mM0 24 1 = 0 := by decide +kernel
theorem zs_45 (d i : Nat) : zs (fun _ => 45) d i = 1 := by
  cases d with
  | zero => rfl
  | succ d => rfl
theorem inv0 : Inv mC0 mM0 := by
  have hTX : TX 1 (fun _ => 45) := ⟨by decide, by decide, by decide⟩
  have hVB : VB bd0 := ⟨⟨Or.inr (Or.inl rfl), Or.inr rfl, ⟨by decide, by decide⟩, ⟨by decide, by decide⟩, by
    have h := may_dec 1 1 0
    unfold mayH
    show (f_X11_mayBeHeld jN 2 2 0 == some 1) = true
    decide +kernel⟩, fun p hp => hTX, fun p hp => (show (0 : Int) ≤ 0 ∧ (0 : Int) ≤ 9999 from ⟨by decide, by decide⟩), Nat.zero_le _, fun i hi => absurd hi (Nat.not_lt_zero i)⟩
  refine ⟨ab0, ⟨hVB, ⟨by decide, fun i hi => absurd hi (Nat.not_lt_zero i)⟩, fun n _ h => by cases h⟩, ⟨rfC_0, fun r hr => ?_, ?_⟩, rfM_0, ?_⟩
  · refine ⟨0, by decide, z3_C r hr, fun i hi => absurd hi (Nat.not_lt_zero i), fun s hs hne => absurd (z4_C r hr s hs) hne⟩
  · refine ⟨⟨fun i hi => (z0_C ⟨i, hi⟩).1, fun p hp => ?_, fun p hp => (z0_C ⟨p, hp⟩).2.1, z2_C.1, fun i hi => absurd hi (Nat.not_lt_zero i)⟩, z2_C.2.1, fun i hi => absurd hi (Nat.not_lt_zero i), fun n hn => ⟨?_, fun h => by cases h⟩⟩
    · have hz := z1_C ⟨p, hp⟩
      refine ⟨?_, fun i hi => ?_, fun i hi hj => ?_, fun i hi => ?_, fun i hi hj => ?_, fun i hi => ?_, fun i hi hj => ?_⟩
      · exact (z0_C ⟨p, hp⟩).2.2
      · have hi : i < 1 := hi
        exact (by have h := (hz ⟨i, by omega⟩).1; rw [show 2 + 4 + 4 * p + 1 = 7 + 4 * p by omega]; exact h)
      · have h := (hz ⟨i, hj⟩).1
        rw [show 2 + 4 + 4 * p + 1 = 7 + 4 * p by omega]; exact h
      · have hi : i < 1 := hi
        have h := (hz ⟨i, by omega⟩).2.1
        rw [show 2 + 4 + 4 * p + 2 = 8 + 4 * p by omega]
        rw [h]
        exact congrArg (fun k : Nat => (k : Int)) (zs_45 4 i).symm
      · have h := (hz ⟨i, hj⟩).2.1
        rw [show 2 + 4 + 4 * p + 2 = 8 + 4 * p by omega]; exact h
      · have hi : i < 1 := hi
        have h := (hz ⟨i, by omega⟩).2.2
        rw [show 2 + 4 + 4 * p + 3 = 9 + 4 * p by omega]
        rw [h]
        have e : i = 0 := by omega
        subst e
        show (0 : Int) = ((lr (fun _ => 45) 0 (zs (fun _ => 45) 4 0) : Nat) : Int)
        decide
      · have h := (hz ⟨i, hj⟩).2.2
        rw [show 2 + 4 + 4 * p + 3 = 9 + 4 * p by omega]; exact h
    · rcases (show n = 0 ∨ n = 1 by omega) with rfl | rfl
      · exact z2_C.2.2.1
      · exact z2_C.2.2.2
  · refine ⟨⟨fun i hi => (z0_M ⟨i, hi⟩).1, fun p hp => ⟨(z0_M ⟨p, hp⟩).2.2.1, fun i hi => ?_⟩, fun p hp => (z0_M ⟨p, hp⟩).2.1, z1_M.2.1, fun i hi => absurd hi (Nat.not_lt_zero i)⟩, z1_M.1, fun i hi => absurd hi (Nat.not_lt_zero i), fun n hn => ⟨?_, fun h => by cases h⟩⟩
    · have hi : i < 1 := hi
      have e : i = 0 := by omega
      subst e
      exact (z0_M ⟨p, hp⟩).2.2.2
    · rcases (show n = 0 ∨ n = 1 by omega) with rfl | rfl
      · exact z1_M.2.2.1
      · exact z1_M.2.2.2
