theorem may_eq : ∀ s : Fin 3, ∀ w : Fin 2, ∀ h : Fin 256, f_X12_mayHold jN 1 ((2 ^ s.val : Nat) : Int) ((w.val + 1 : Nat) : Int) (h.val : Int) = f_X11_mayBeHeld jN ((2 ^ s.val : Nat) : Int) ((w.val + 1 : Nat) : Int) (h.val : Int) := by decide +kernel
theorem may_01 : ∀ s : Fin 3, ∀ w : Fin 2, ∀ h : Fin 256, (f_X11_mayBeHeld jN ((2 ^ s.val : Nat) : Int) ((w.val + 1 : Nat) : Int) (h.val : Int)).any (fun q => q == 0 || q == 1) = true := by decide +kernel
theorem may_dec (s : Fin 3) (w : Fin 2) (h : Fin 256) : f_X12_mayHold jN 1 ((2 ^ s.val : Nat) : Int) ((w.val + 1 : Nat) : Int) (h.val : Int) = f_X11_mayBeHeld jN ((2 ^ s.val : Nat) : Int) ((w.val + 1 : Nat) : Int) (h.val : Int) ∧ (f_X11_mayBeHeld jN ((2 ^ s.val : Nat) : Int) ((w.val + 1 : Nat) : Int) (h.val : Int) = some 0 ∨ f_X11_mayBeHeld jN ((2 ^ s.val : Nat) : Int) ((w.val + 1 : Nat) : Int) (h.val : Int) = some 1) := by
  refine ⟨may_eq s w h, ?_⟩
  have h1 := may_01 s w h
  generalize f_X11_mayBeHeld jN ((2 ^ s.val : Nat) : Int) ((w.val + 1 : Nat) : Int) (h.val : Int) = q at h1 ⊢
  cases q with
  | none => cases h1
  | some v =>
    simp only [Option.any_some, Bool.or_eq_true, beq_iff_eq] at h1
    rcases h1 with rfl | rfl
    · exact Or.inl rfl
    · exact Or.inr rfl
theorem may_all {s w h : Int} (hs : s = 1 ∨ s = 2 ∨ s = 4) (hw : w = 1 ∨ w = 2) (h0 : 0 ≤ h) (h1 : h ≤ 255) : f_X12_mayHold jN 1 s w h = f_X11_mayBeHeld jN s w h ∧ (f_X11_mayBeHeld jN s w h = some 0 ∨ f_X11_mayBeHeld jN s w h = some 1) := by
  obtain ⟨k, rfl⟩ : ∃ k : Nat, h = k := ⟨h.toNat, by omega⟩
  have hk : k < 256 := by omega
  rcases hs with rfl | rfl | rfl <;> rcases hw with rfl | rfl
  · exact may_dec 0 0 ⟨k, hk⟩
  · exact may_dec 0 1 ⟨k, hk⟩
  · exact may_dec 1 0 ⟨k, hk⟩
  · exact may_dec 1 1 ⟨k, hk⟩
  · exact may_dec 2 0 ⟨k, hk⟩
  · exact may_dec 2 1 ⟨k, hk⟩
